def M_X11_end (x : XM) (q : XM → Prop) : Prop :=
  (((x 83 23) = 0 → M_X11_skip x  (fun x2 => M_X11_here x2  (fun z3 => ((¬ z3 = 59 → M_X11_fail x2 1 (x2 83 22)  (fun x5 => q x5)) ∧ (z3 = 59 → (Rg ((x2 83 22) + 1)) ∧ (∀ x7 : XM, x7 = uX x2 83 22 ((x2 83 22) + 1) → q x7)))))) ∧ (¬ (x 83 23) = 0 → q x))
set_option maxRecDepth 100000 in
theorem w_X11_end {Γ : GE} {x : XM} (hx : WX x) {q : XM → Prop} (h : M_X11_end x q) : CV Γ 2 NF NF D_X11_end [.ref (gB Γ + 83)] (mk Γ x) (QU Γ q) := by
  refine CV.of rfl (cat_all rfl) (Nat.le_of_ble_eq_true rfl) ?_
  show V Γ 2 NF NF D_X11_end (QU Γ q) 0 [.ref (gB Γ + 83)] [] NF (mk Γ x)
  unfold M_X11_end at h
  refine V_aload_0 dX11_end_0 ?_
  refine V_gI dX11_end_1 fl_R_89 ly_83 (by decide) wn_83_23 ?_
  refine V_if_eq 8 dX11_end_4 (by decide) (hx _ _) ⟨fun c1 => ?_, fun c1 => ?_⟩
  · have h := h.1 c1
    refine V_aload_0 dX11_end_8 ?_
    refine V_cVU0 (My := D_X11_skip) dX11_end_9 ml_R_95 ce_X11_skip ly_83 (by decide) cl_11 (by decide) (Nat.le_refl _) (Nat.le_refl _) (by decide) (sumL rfl) (w_X11_skip hx h) (fun x2 hx2 h => ?_)
    refine V_aload_0 dX11_end_12 ?_
    refine V_cVI0 (My := D_X11_here) dX11_end_13 ml_R_85 ce_X11_here ly_83 (by decide) cl_11 (by decide) (Nat.le_refl _) (Nat.le_refl _) (by decide) (sumL rfl) (w_X11_here hx2 h) (fun z3 hz3 h => ?_)
    refine V_bipush dX11_end_16 (by decide) ?_
    refine V_icmp_ne 34 dX11_end_18 (by decide) hz3 (rgL rfl) ⟨fun c4 => ?_, fun c4 => ?_⟩
    · have h := h.1 c4
      refine V_aload_0 dX11_end_34 ?_
      refine V_iconst dX11_end_35 ?_
      refine V_aload_0 dX11_end_36 ?_
      refine V_gI dX11_end_37 fl_R_82 ly_83 (by decide) wn_83_22 ?_
      refine V_cVU2 (My := D_X11_fail) dX11_end_40 ml_R_102 ce_X11_fail ly_83 (by decide) cl_11 (by decide) (Nat.le_refl _) (Nat.le_refl _) (by decide) (sumL rfl) (w_X11_fail hx2 (rgL rfl) (hx2 _ _) h) (fun x5 hx5 h => ?_)
      exact V_vreturn dX11_end_43 rfl ⟨_, rfl, hx5, rfl, h⟩
    · have h := h.2 c4
      refine V_aload_0 dX11_end_21 ?_
      refine V_dup dX11_end_22 rfl ?_
      refine V_gI dX11_end_23 fl_R_82 ly_83 (by decide) wn_83_22 ?_
      refine V_iconst dX11_end_26 ?_
      refine V_iadd dX11_end_27 ?_
      obtain ⟨g6, h⟩ := h
      refine V_pIe dX11_end_28 fl_R_82 ly_83 (by decide) wn_83_22 (fun x7 ex7 => ?_)
      have h := h x7 ex7
      have hx7 := hx2.upE g6 ex7
      refine V_goto 43 dX11_end_31 (by decide) ?_
      exact V_vreturn dX11_end_43 rfl ⟨_, rfl, hx7, rfl, h⟩
  · have h := h.2 c1
    exact V_vreturn dX11_end_7 rfl ⟨_, rfl, hx, rfl, h⟩
def M_X11_readMarks (k1 : Nat) (x : XM) (v2 : Int) (q : XM → Prop) : Prop :=
  M_X11_number x 0 4  (fun z1 x2 => (0 ≤ (4 * v2) ∧ (4 * v2) < (((lay k1).2 : Nat) : Int)) ∧ (∀ x4 : XM, x4 = uX x2 k1 (((4 * v2)).toNat) z1 → M_X11_number x4 1 9  (fun z5 x6 => (0 ≤ ((4 * v2) + 1) ∧ ((4 * v2) + 1) < (((lay k1).2 : Nat) : Int)) ∧ (∀ x8 : XM, x8 = uX x6 k1 ((((4 * v2) + 1)).toNat) z5 → M_X11_number x8 0 5  (fun z9 x10 => (0 ≤ ((4 * v2) + 2) ∧ ((4 * v2) + 2) < (((lay k1).2 : Nat) : Int)) ∧ (∀ x12 : XM, x12 = uX x10 k1 ((((4 * v2) + 2)).toNat) z9 → M_X11_number x12 0 1  (fun z13 x14 => (0 ≤ ((4 * v2) + 3) ∧ ((4 * v2) + 3) < (((lay k1).2 : Nat) : Int)) ∧ (∀ x16 : XM, x16 = uX x14 k1 ((((4 * v2) + 3)).toNat) z13 → q x16))))))))
set_option maxRecDepth 100000 in
theorem w_X11_readMarks {Γ : GE} {k1 : Nat} (hk1 : (lay k1).1 = 20) {x : XM} (hx : WX x) {v2 : Int} {q : XM → Prop} (r2 : Rg v2) (h : M_X11_readMarks k1 x v2 q) : CV Γ 3 NF NF D_X11_readMarks [.ref (gB Γ + 83), .ref (gB Γ + k1), vI v2] (mk Γ x) (QU Γ q) := by
  refine CV.of rfl (cat_all rfl) (Nat.le_of_ble_eq_true rfl) ?_
  show V Γ 3 NF NF D_X11_readMarks (QU Γ q) 0 [.ref (gB Γ + 83), .ref (gB Γ + k1), vI v2] [] NF (mk Γ x)
  unfold M_X11_readMarks at h
  refine V_aload_1 dX11_readMarks_0 ?_
  refine V_iconst dX11_readMarks_1 ?_
  refine V_iload_2 dX11_readMarks_2 ?_
  refine V_imul dX11_readMarks_3 ?_
  refine V_aload_0 dX11_readMarks_4 ?_
  refine V_iconst dX11_readMarks_5 ?_
  refine V_iconst dX11_readMarks_6 ?_
  refine V_cVE2 (My := D_X11_number) dX11_readMarks_7 ml_R_106 ce_X11_number ly_83 (by decide) cl_11 (by decide) (Nat.le_refl _) (Nat.le_refl _) (by decide) (sumL rfl) (w_X11_number hx (rgL rfl) (rgL rfl) h) (fun z1 x2 hx2 hz1 h => ?_)
  obtain ⟨g3, h⟩ := h
  refine V_sIe dX11_readMarks_10 (arr_f hk1) (lt_lay hk1 (by decide)) (lay2_lt _) g3 (fun x4 ex4 => ?_)
  have h := h x4 ex4
  have hx4 := hx2.upE hz1 ex4
  refine V_aload_1 dX11_readMarks_11 ?_
  refine V_iconst dX11_readMarks_12 ?_
  refine V_iload_2 dX11_readMarks_13 ?_
  refine V_imul dX11_readMarks_14 ?_
  refine V_iconst dX11_readMarks_15 ?_
  refine V_iadd dX11_readMarks_16 ?_
  refine V_aload_0 dX11_readMarks_17 ?_
  refine V_iconst dX11_readMarks_18 ?_
  refine V_bipush dX11_readMarks_19 (by decide) ?_
  refine V_cVE2 (My := D_X11_number) dX11_readMarks_21 ml_R_106 ce_X11_number ly_83 (by decide) cl_11 (by decide) (Nat.le_refl _) (Nat.le_refl _) (by decide) (sumL rfl) (w_X11_number hx4 (rgL rfl) (rgL rfl) h) (fun z5 x6 hx6 hz5 h => ?_)
  obtain ⟨g7, h⟩ := h
  refine V_sIe dX11_readMarks_24 (arr_f hk1) (lt_lay hk1 (by decide)) (lay2_lt _) g7 (fun x8 ex8 => ?_)
  have h := h x8 ex8
  have hx8 := hx6.upE hz5 ex8
  refine V_aload_1 dX11_readMarks_25 ?_
  refine V_iconst dX11_readMarks_26 ?_
  refine V_iload_2 dX11_readMarks_27 ?_
  refine V_imul dX11_readMarks_28 ?_
  refine V_iconst dX11_readMarks_29 ?_
  refine V_iadd dX11_readMarks_30 ?_
  refine V_aload_0 dX11_readMarks_31 ?_
  refine V_iconst dX11_readMarks_32 ?_
  refine V_iconst dX11_readMarks_33 ?_
  refine V_cVE2 (My := D_X11_number) dX11_readMarks_34 ml_R_106 ce_X11_number ly_83 (by decide) cl_11 (by decide) (Nat.le_refl _) (Nat.le_refl _) (by decide) (sumL rfl) (w_X11_number hx8 (rgL rfl) (rgL rfl) h) (fun z9 x10 hx10 hz9 h => ?_)
  obtain ⟨g11, h⟩ := h
  refine V_sIe dX11_readMarks_37 (arr_f hk1) (lt_lay hk1 (by decide)) (lay2_lt _) g11 (fun x12 ex12 => ?_)
  have h := h x12 ex12
  have hx12 := hx10.upE hz9 ex12
  refine V_aload_1 dX11_readMarks_38 ?_
  refine V_iconst dX11_readMarks_39 ?_
  refine V_iload_2 dX11_readMarks_40 ?_
  refine V_imul dX11_readMarks_41 ?_
  refine V_iconst dX11_readMarks_42 ?_
  refine V_iadd dX11_readMarks_43 ?_
  refine V_aload_0 dX11_readMarks_44 ?_
  refine V_iconst dX11_readMarks_45 ?_
  refine V_iconst dX11_readMarks_46 ?_
  refine V_cVE2 (My := D_X11_number) dX11_readMarks_47 ml_R_106 ce_X11_number ly_83 (by decide) cl_11 (by decide) (Nat.le_refl _) (Nat.le_refl _) (by decide) (sumL rfl) (w_X11_number hx12 (rgL rfl) (rgL rfl) h) (fun z13 x14 hx14 hz13 h => ?_)
  obtain ⟨g15, h⟩ := h
  refine V_sIe dX11_readMarks_50 (arr_f hk1) (lt_lay hk1 (by decide)) (lay2_lt _) g15 (fun x16 ex16 => ?_)
  have h := h x16 ex16
  have hx16 := hx14.upE hz13 ex16
  exact V_vreturn dX11_readMarks_51 rfl ⟨_, rfl, hx16, rfl, h⟩
def M_X11_clause_289 (q : XM → Prop) (x : XM) : Prop :=
  M_X11_end x  (fun x5 => q x5)
def M_X11_clause_285 (q : XM → Prop) (x : XM) (v2 : Int) (s0 : Int) : Prop :=
  M_X11_fail x s0 v2  (fun x41 => M_X11_clause_289 q x41)
def M_X11_clause (x : XM) (v1 : Int) (v2 : Int) (q : XM → Prop) : Prop :=
  ((v1 = 98 → ((¬ (x 83 12) = 12 → M_X11_readMarks 89 x (x 83 12)  (fun x2 => (Rg ((x2 83 12) + 1)) ∧ (∀ x4 : XM, x4 = uX x2 83 12 ((x2 83 12) + 1) → M_X11_clause_289 q x4))) ∧ ((x 83 12) = 12 → M_X11_fail x 3 v2  (fun x6 => q x6)))) ∧ (¬ v1 = 98 → ((v1 = 110 → ((¬ (x 83 18) = 5 → M_X11_number x 0 99  (fun z8 x9 => (0 ≤ (x 83 18) ∧ (x 83 18) < 5) ∧ (∀ x11 : XM, x11 = uX x9 92 (((x 83 18)).toNat) z8 → (Rg ((x11 83 18) + 1)) ∧ (∀ x13 : XM, x13 = uX x11 83 18 ((x11 83 18) + 1) → M_X11_clause_289 q x13)))) ∧ ((x 83 18) = 5 → M_X11_fail x 3 v2  (fun x14 => q x14)))) ∧ (¬ v1 = 110 → ((v1 = 114 → ((¬ (x 83 14) = 6 → M_X11_number x 0 3  (fun z16 x17 => (0 ≤ (4 * (x 83 14)) ∧ (4 * (x 83 14)) < 24) ∧ (∀ x19 : XM, x19 = uX x17 90 (((4 * (x 83 14))).toNat) z16 → M_X11_number x19 0 2  (fun z20 x21 => (0 ≤ ((4 * (x19 83 14)) + 1) ∧ ((4 * (x19 83 14)) + 1) < 24) ∧ (∀ x23 : XM, x23 = uX x21 90 ((((4 * (x19 83 14)) + 1)).toNat) z20 → M_X11_number x23 0 9  (fun z24 x25 => (0 ≤ ((4 * (x23 83 14)) + 2) ∧ ((4 * (x23 83 14)) + 2) < 24) ∧ (∀ x27 : XM, x27 = uX x25 90 ((((4 * (x23 83 14)) + 2)).toNat) z24 → M_X11_number x27 0 5  (fun z28 x29 => (0 ≤ ((4 * (x27 83 14)) + 3) ∧ ((4 * (x27 83 14)) + 3) < 24) ∧ (∀ x31 : XM, x31 = uX x29 90 ((((4 * (x27 83 14)) + 3)).toNat) z28 → (Rg ((x31 83 14) + 1)) ∧ (∀ x33 : XM, x33 = uX x31 83 14 ((x31 83 14) + 1) → M_X11_clause_289 q x33)))))))))) ∧ ((x 83 14) = 6 → M_X11_fail x 3 v2  (fun x34 => q x34)))) ∧ (¬ v1 = 114 → ((v1 = 117 → ((¬ (x 83 16) = 5 → M_X11_readMarks 91 x (x 83 16)  (fun x36 => (Rg ((x36 83 16) + 1)) ∧ (∀ x38 : XM, x38 = uX x36 83 16 ((x36 83 16) + 1) → M_X11_clause_289 q x38))) ∧ ((x 83 16) = 5 → M_X11_fail x 3 v2  (fun x39 => q x39)))) ∧ (¬ v1 = 117 → ((¬ v1 = 116 → M_X11_clause_285 q x v2 1) ∧ (v1 = 116 → M_X11_clause_285 q x v2 3))))))))))
set_option maxRecDepth 100000 in
theorem w_X11_clause_289 {Γ : GE} {q : XM → Prop} : ∀ (x : XM) , WX x → M_X11_clause_289 q x → V Γ 4 NF NF D_X11_clause (QU Γ q) 289 [.ref (gB Γ + 83), uu, uu] [] NF (mk Γ x) := by
  intro x hx h
  unfold M_X11_clause_289 at h
  refine V_aload_0 dX11_clause_289 ?_
  refine V_cVU0 (My := D_X11_end) dX11_clause_290 ml_R_126 ce_X11_end ly_83 (by decide) cl_11 (by decide) (Nat.le_refl _) (Nat.le_refl _) (by decide) (sumL rfl) (w_X11_end hx h) (fun x5 hx5 h => ?_)
  exact V_vreturn dX11_clause_293 rfl ⟨_, rfl, hx5, rfl, h⟩
set_option maxRecDepth 100000 in
theorem w_X11_clause_285 {Γ : GE} {q : XM → Prop} : ∀ (x : XM) (v2 : Int) (s0 : Int) , WX x → Rg v2 → Rg s0 → M_X11_clause_285 q x v2 s0 → V Γ 4 NF NF D_X11_clause (QU Γ q) 285 [.ref (gB Γ + 83), uu, vI v2] [vI s0, .ref (gB Γ + 83)] NF (mk Γ x) := by
  intro x v2 s0 hx r2 rs0 h
  unfold M_X11_clause_285 at h
  refine V_iload_2 dX11_clause_285 ?_
  refine V_cVU2 (My := D_X11_fail) dX11_clause_286 ml_R_102 ce_X11_fail ly_83 (by decide) cl_11 (by decide) (Nat.le_refl _) (Nat.le_refl _) (by decide) (sumL rfl) (w_X11_fail hx rs0 r2 h) (fun x41 hx41 h => ?_)
  refine V_fg_2 ?_
  exact w_X11_clause_289 _ hx41 h
set_option maxRecDepth 100000 in
theorem w_X11_clause {Γ : GE} {x : XM} (hx : WX x) {v1 v2 : Int} {q : XM → Prop} (r1 : Rg v1) (r2 : Rg v2) (h : M_X11_clause x v1 v2 q) : CV Γ 4 NF NF D_X11_clause [.ref (gB Γ + 83), vI v1, vI v2] (mk Γ x) (QU Γ q) := by
  refine CV.of rfl (cat_all rfl) (Nat.le_of_ble_eq_true rfl) ?_
  show V Γ 4 NF NF D_X11_clause (QU Γ q) 0 [.ref (gB Γ + 83), vI v1, vI v2] [] NF (mk Γ x)
  unfold M_X11_clause at h
  refine V_iload_1 dX11_clause_0 ?_
  by_cases e_0 : v1 = 98
  · have h := h.1 e_0
    refine V_lookup (off := 43) 44 dX11_clause_1 (by decide) r1 (by rw [e_0]; decide) (by decide) ?_
    refine V_aload_0 dX11_clause_44 ?_
    refine V_gI dX11_clause_45 fl_R_110 ly_83 (by decide) wn_83_12 ?_
    refine V_bipush dX11_clause_48 (by decide) ?_
    refine V_icmp_ne 60 dX11_clause_50 (by decide) (hx _ _) (rgL rfl) ⟨fun c1 => ?_, fun c1 => ?_⟩
    · have h := h.1 c1
      refine V_aload_0 dX11_clause_60 ?_
      refine V_aload_0 dX11_clause_61 ?_
      refine V_gR dX11_clause_62 fl_R_26 ly_83 (by decide) wr_83_13 ?_
      refine V_aload_0 dX11_clause_65 ?_
      refine V_gI dX11_clause_66 fl_R_110 ly_83 (by decide) wn_83_12 ?_
      refine V_cVU2 (My := D_X11_readMarks) dX11_clause_69 ml_R_113 ce_X11_readMarks ly_83 (by decide) cl_11 (by decide) (Nat.le_refl _) (Nat.le_refl _) (by decide) (sumL rfl) (w_X11_readMarks (show (lay 89).1 = 20 from rfl) hx (hx _ _) h) (fun x2 hx2 h => ?_)
      refine V_aload_0 dX11_clause_72 ?_
      refine V_dup dX11_clause_73 rfl ?_
      refine V_gI dX11_clause_74 fl_R_110 ly_83 (by decide) wn_83_12 ?_
      refine V_iconst dX11_clause_77 ?_
      refine V_iadd dX11_clause_78 ?_
      obtain ⟨g3, h⟩ := h
      refine V_pIe dX11_clause_79 fl_R_110 ly_83 (by decide) wn_83_12 (fun x4 ex4 => ?_)
      have h := h x4 ex4
      have hx4 := hx2.upE g3 ex4
      refine V_goto 289 dX11_clause_82 (by decide) ?_
      refine V_fg_1 ?_
      refine V_fg_2 ?_
      exact w_X11_clause_289 _ hx4 h
    · have h := h.2 c1
      refine V_aload_0 dX11_clause_53 ?_
      refine V_iconst dX11_clause_54 ?_
      refine V_iload_2 dX11_clause_55 ?_
      refine V_cVU2 (My := D_X11_fail) dX11_clause_56 ml_R_102 ce_X11_fail ly_83 (by decide) cl_11 (by decide) (Nat.le_refl _) (Nat.le_refl _) (by decide) (sumL rfl) (w_X11_fail hx (rgL rfl) r2 h) (fun x6 hx6 h => ?_)
      exact V_vreturn dX11_clause_59 rfl ⟨_, rfl, hx6, rfl, h⟩
  · have h := h.2 e_0
    by_cases e_1 : v1 = 110
    · have h := h.1 e_1
      refine V_lookup (off := 228) 229 dX11_clause_1 (by decide) r1 (by rw [e_1]; decide) (by decide) ?_
      refine V_aload_0 dX11_clause_229 ?_
      refine V_gI dX11_clause_230 fl_R_123 ly_83 (by decide) wn_83_18 ?_
      refine V_iconst dX11_clause_233 ?_
      refine V_icmp_ne 244 dX11_clause_234 (by decide) (hx _ _) (rgL rfl) ⟨fun c7 => ?_, fun c7 => ?_⟩
      · have h := h.1 c7
        refine V_aload_0 dX11_clause_244 ?_
        refine V_gR dX11_clause_245 fl_R_35 ly_83 (by decide) wr_83_19 ?_
        refine V_aload_0 dX11_clause_248 ?_
        refine V_gI dX11_clause_249 fl_R_123 ly_83 (by decide) wn_83_18 ?_
        refine V_aload_0 dX11_clause_252 ?_
        refine V_iconst dX11_clause_253 ?_
        refine V_bipush dX11_clause_254 (by decide) ?_
        refine V_cVE2 (My := D_X11_number) dX11_clause_256 ml_R_106 ce_X11_number ly_83 (by decide) cl_11 (by decide) (Nat.le_refl _) (Nat.le_refl _) (by decide) (sumL rfl) (w_X11_number hx (rgL rfl) (rgL rfl) h) (fun z8 x9 hx9 hz8 h => ?_)
        obtain ⟨g10, h⟩ := h
        refine V_sIe dX11_clause_259 ly_92 (by decide) (by decide) g10 (fun x11 ex11 => ?_)
        have h := h x11 ex11
        have hx11 := hx9.upE hz8 ex11
        refine V_aload_0 dX11_clause_260 ?_
        refine V_dup dX11_clause_261 rfl ?_
        refine V_gI dX11_clause_262 fl_R_123 ly_83 (by decide) wn_83_18 ?_
        refine V_iconst dX11_clause_265 ?_
        refine V_iadd dX11_clause_266 ?_
        obtain ⟨g12, h⟩ := h
        refine V_pIe dX11_clause_267 fl_R_123 ly_83 (by decide) wn_83_18 (fun x13 ex13 => ?_)
        have h := h x13 ex13
        have hx13 := hx11.upE g12 ex13
        refine V_goto 289 dX11_clause_270 (by decide) ?_
        refine V_fg_1 ?_
        refine V_fg_2 ?_
        exact w_X11_clause_289 _ hx13 h
      · have h := h.2 c7
        refine V_aload_0 dX11_clause_237 ?_
        refine V_iconst dX11_clause_238 ?_
        refine V_iload_2 dX11_clause_239 ?_
        refine V_cVU2 (My := D_X11_fail) dX11_clause_240 ml_R_102 ce_X11_fail ly_83 (by decide) cl_11 (by decide) (Nat.le_refl _) (Nat.le_refl _) (by decide) (sumL rfl) (w_X11_fail hx (rgL rfl) r2 h) (fun x14 hx14 h => ?_)
        exact V_vreturn dX11_clause_243 rfl ⟨_, rfl, hx14, rfl, h⟩
    · have h := h.2 e_1
      by_cases e_2 : v1 = 114
      · have h := h.1 e_2
        refine V_lookup (off := 84) 85 dX11_clause_1 (by decide) r1 (by rw [e_2]; decide) (by decide) ?_
        refine V_aload_0 dX11_clause_85 ?_
        refine V_gI dX11_clause_86 fl_R_117 ly_83 (by decide) wn_83_14 ?_
        refine V_bipush dX11_clause_89 (by decide) ?_
        refine V_icmp_ne 101 dX11_clause_91 (by decide) (hx _ _) (rgL rfl) ⟨fun c15 => ?_, fun c15 => ?_⟩
        · have h := h.1 c15
          refine V_aload_0 dX11_clause_101 ?_
          refine V_gR dX11_clause_102 fl_R_29 ly_83 (by decide) wr_83_15 ?_
          refine V_iconst dX11_clause_105 ?_
          refine V_aload_0 dX11_clause_106 ?_
          refine V_gI dX11_clause_107 fl_R_117 ly_83 (by decide) wn_83_14 ?_
          refine V_imul dX11_clause_110 ?_
          refine V_aload_0 dX11_clause_111 ?_
          refine V_iconst dX11_clause_112 ?_
          refine V_iconst dX11_clause_113 ?_
          refine V_cVE2 (My := D_X11_number) dX11_clause_114 ml_R_106 ce_X11_number ly_83 (by decide) cl_11 (by decide) (Nat.le_refl _) (Nat.le_refl _) (by decide) (sumL rfl) (w_X11_number hx (rgL rfl) (rgL rfl) h) (fun z16 x17 hx17 hz16 h => ?_)
          obtain ⟨g18, h⟩ := h
          refine V_sIe dX11_clause_117 ly_90 (by decide) (by decide) g18 (fun x19 ex19 => ?_)
          have h := h x19 ex19
          have hx19 := hx17.upE hz16 ex19
          refine V_aload_0 dX11_clause_118 ?_
          refine V_gR dX11_clause_119 fl_R_29 ly_83 (by decide) wr_83_15 ?_
          refine V_iconst dX11_clause_122 ?_
          refine V_aload_0 dX11_clause_123 ?_
          refine V_gI dX11_clause_124 fl_R_117 ly_83 (by decide) wn_83_14 ?_
          refine V_imul dX11_clause_127 ?_
          refine V_iconst dX11_clause_128 ?_
          refine V_iadd dX11_clause_129 ?_
          refine V_aload_0 dX11_clause_130 ?_
          refine V_iconst dX11_clause_131 ?_
          refine V_iconst dX11_clause_132 ?_
          refine V_cVE2 (My := D_X11_number) dX11_clause_133 ml_R_106 ce_X11_number ly_83 (by decide) cl_11 (by decide) (Nat.le_refl _) (Nat.le_refl _) (by decide) (sumL rfl) (w_X11_number hx19 (rgL rfl) (rgL rfl) h) (fun z20 x21 hx21 hz20 h => ?_)
          obtain ⟨g22, h⟩ := h
          refine V_sIe dX11_clause_136 ly_90 (by decide) (by decide) g22 (fun x23 ex23 => ?_)
          have h := h x23 ex23
          have hx23 := hx21.upE hz20 ex23
          refine V_aload_0 dX11_clause_137 ?_
          refine V_gR dX11_clause_138 fl_R_29 ly_83 (by decide) wr_83_15 ?_
          refine V_iconst dX11_clause_141 ?_
          refine V_aload_0 dX11_clause_142 ?_
          refine V_gI dX11_clause_143 fl_R_117 ly_83 (by decide) wn_83_14 ?_
          refine V_imul dX11_clause_146 ?_
          refine V_iconst dX11_clause_147 ?_
          refine V_iadd dX11_clause_148 ?_
          refine V_aload_0 dX11_clause_149 ?_
          refine V_iconst dX11_clause_150 ?_
          refine V_bipush dX11_clause_151 (by decide) ?_
          refine V_cVE2 (My := D_X11_number) dX11_clause_153 ml_R_106 ce_X11_number ly_83 (by decide) cl_11 (by decide) (Nat.le_refl _) (Nat.le_refl _) (by decide) (sumL rfl) (w_X11_number hx23 (rgL rfl) (rgL rfl) h) (fun z24 x25 hx25 hz24 h => ?_)
          obtain ⟨g26, h⟩ := h
          refine V_sIe dX11_clause_156 ly_90 (by decide) (by decide) g26 (fun x27 ex27 => ?_)
          have h := h x27 ex27
          have hx27 := hx25.upE hz24 ex27
          refine V_aload_0 dX11_clause_157 ?_
          refine V_gR dX11_clause_158 fl_R_29 ly_83 (by decide) wr_83_15 ?_
          refine V_iconst dX11_clause_161 ?_
          refine V_aload_0 dX11_clause_162 ?_
          refine V_gI dX11_clause_163 fl_R_117 ly_83 (by decide) wn_83_14 ?_
          refine V_imul dX11_clause_166 ?_
          refine V_iconst dX11_clause_167 ?_
          refine V_iadd dX11_clause_168 ?_
          refine V_aload_0 dX11_clause_169 ?_
          refine V_iconst dX11_clause_170 ?_
          refine V_iconst dX11_clause_171 ?_
          refine V_cVE2 (My := D_X11_number) dX11_clause_172 ml_R_106 ce_X11_number ly_83 (by decide) cl_11 (by decide) (Nat.le_refl _) (Nat.le_refl _) (by decide) (sumL rfl) (w_X11_number hx27 (rgL rfl) (rgL rfl) h) (fun z28 x29 hx29 hz28 h => ?_)
          obtain ⟨g30, h⟩ := h
          refine V_sIe dX11_clause_175 ly_90 (by decide) (by decide) g30 (fun x31 ex31 => ?_)
          have h := h x31 ex31
          have hx31 := hx29.upE hz28 ex31
          refine V_aload_0 dX11_clause_176 ?_
          refine V_dup dX11_clause_177 rfl ?_
          refine V_gI dX11_clause_178 fl_R_117 ly_83 (by decide) wn_83_14 ?_
          refine V_iconst dX11_clause_181 ?_
          refine V_iadd dX11_clause_182 ?_
          obtain ⟨g32, h⟩ := h
          refine V_pIe dX11_clause_183 fl_R_117 ly_83 (by decide) wn_83_14 (fun x33 ex33 => ?_)
          have h := h x33 ex33
          have hx33 := hx31.upE g32 ex33
          refine V_goto 289 dX11_clause_186 (by decide) ?_
          refine V_fg_1 ?_
          refine V_fg_2 ?_
          exact w_X11_clause_289 _ hx33 h
        · have h := h.2 c15
          refine V_aload_0 dX11_clause_94 ?_
          refine V_iconst dX11_clause_95 ?_
          refine V_iload_2 dX11_clause_96 ?_
          refine V_cVU2 (My := D_X11_fail) dX11_clause_97 ml_R_102 ce_X11_fail ly_83 (by decide) cl_11 (by decide) (Nat.le_refl _) (Nat.le_refl _) (by decide) (sumL rfl) (w_X11_fail hx (rgL rfl) r2 h) (fun x34 hx34 h => ?_)
          exact V_vreturn dX11_clause_100 rfl ⟨_, rfl, hx34, rfl, h⟩
      · have h := h.2 e_2
        by_cases e_3 : v1 = 117
        · have h := h.1 e_3
          refine V_lookup (off := 188) 189 dX11_clause_1 (by decide) r1 (by rw [e_3]; decide) (by decide) ?_
          refine V_aload_0 dX11_clause_189 ?_
          refine V_gI dX11_clause_190 fl_R_120 ly_83 (by decide) wn_83_16 ?_
          refine V_iconst dX11_clause_193 ?_
          refine V_icmp_ne 204 dX11_clause_194 (by decide) (hx _ _) (rgL rfl) ⟨fun c35 => ?_, fun c35 => ?_⟩
          · have h := h.1 c35
            refine V_aload_0 dX11_clause_204 ?_
            refine V_aload_0 dX11_clause_205 ?_
            refine V_gR dX11_clause_206 fl_R_32 ly_83 (by decide) wr_83_17 ?_
            refine V_aload_0 dX11_clause_209 ?_
            refine V_gI dX11_clause_210 fl_R_120 ly_83 (by decide) wn_83_16 ?_
            refine V_cVU2 (My := D_X11_readMarks) dX11_clause_213 ml_R_113 ce_X11_readMarks ly_83 (by decide) cl_11 (by decide) (Nat.le_refl _) (Nat.le_refl _) (by decide) (sumL rfl) (w_X11_readMarks (show (lay 91).1 = 20 from rfl) hx (hx _ _) h) (fun x36 hx36 h => ?_)
            refine V_aload_0 dX11_clause_216 ?_
            refine V_dup dX11_clause_217 rfl ?_
            refine V_gI dX11_clause_218 fl_R_120 ly_83 (by decide) wn_83_16 ?_
            refine V_iconst dX11_clause_221 ?_
            refine V_iadd dX11_clause_222 ?_
            obtain ⟨g37, h⟩ := h
            refine V_pIe dX11_clause_223 fl_R_120 ly_83 (by decide) wn_83_16 (fun x38 ex38 => ?_)
            have h := h x38 ex38
            have hx38 := hx36.upE g37 ex38
            refine V_goto 289 dX11_clause_226 (by decide) ?_
            refine V_fg_1 ?_
            refine V_fg_2 ?_
            exact w_X11_clause_289 _ hx38 h
          · have h := h.2 c35
            refine V_aload_0 dX11_clause_197 ?_
            refine V_iconst dX11_clause_198 ?_
            refine V_iload_2 dX11_clause_199 ?_
            refine V_cVU2 (My := D_X11_fail) dX11_clause_200 ml_R_102 ce_X11_fail ly_83 (by decide) cl_11 (by decide) (Nat.le_refl _) (Nat.le_refl _) (by decide) (sumL rfl) (w_X11_fail hx (rgL rfl) r2 h) (fun x39 hx39 h => ?_)
            exact V_vreturn dX11_clause_203 rfl ⟨_, rfl, hx39, rfl, h⟩
        · have h := h.2 e_3
          refine V_lookup (off := 272) 273 dX11_clause_1 (by decide) r1 (show Op.lookupswitch.offset [(98, 43), (110, 228), (114, 84), (117, 188)] 272 v1 = 272 by rw [Op.lookupswitch.offset_cons, if_neg (fun q => e_0 q.symm), Op.lookupswitch.offset_cons, if_neg (fun q => e_1 q.symm), Op.lookupswitch.offset_cons, if_neg (fun q => e_2 q.symm), Op.lookupswitch.offset_cons, if_neg (fun q => e_3 q.symm)]; rfl) (by decide) ?_
          refine V_aload_0 dX11_clause_273 ?_
          refine V_iload_1 dX11_clause_274 ?_
          refine V_bipush dX11_clause_275 (by decide) ?_
          refine V_icmp_ne 284 dX11_clause_277 (by decide) r1 (rgL rfl) ⟨fun c40 => ?_, fun c40 => ?_⟩
          · have h := h.1 c40
            refine V_iconst dX11_clause_284 ?_
            refine V_fg_1 ?_
            exact w_X11_clause_285 _ _ _ hx r2 (rgL rfl) h
          · have h := h.2 c40
            refine V_iconst dX11_clause_280 ?_
            refine V_goto 285 dX11_clause_281 (by decide) ?_
            refine V_fg_1 ?_
            exact w_X11_clause_285 _ _ _ hx r2 (rgL rfl) h
def M_X11_read_104 (q : XM → Prop) : Nat → XM → Prop
  | 0, _ => False
  | n + 1, x =>
  (((x 83 1) ≤ (x 83 22) → q x) ∧ (¬ ((x 83 1) ≤ (x 83 22)) → ((¬ (x 83 23) = 0 → q x) ∧ ((x 83 23) = 0 → (Rg ((x 83 22) + 1)) ∧ (∀ x23 : XM, x23 = uX x 83 22 ((x 83 22) + 1) → (0 ≤ (x 83 22) ∧ (x 83 22) < 240) ∧ M_X11_clause x23 (jand (x23 84 (((x 83 22)).toNat)) 255) (x 83 22)  (fun x25 => M_X11_skip x25  (fun x26 => (M_X11_read_104 q n) x26)))))))
def M_X11_read (x : XM) (q : XM → Prop) : Prop :=
  ∀ x1 : XM, x1 = uX x 83 22 0 → ∀ x2 : XM, x2 = uX x1 83 23 0 → ∀ x3 : XM, x3 = uX x2 83 24 (-1) → ∀ x4 : XM, x4 = uX x3 83 11 0 → ∀ x5 : XM, x5 = uX x4 83 12 0 → ∀ x6 : XM, x6 = uX x5 83 14 0 → ∀ x7 : XM, x7 = uX x6 83 16 0 → ∀ x8 : XM, x8 = uX x7 83 18 0 → M_X11_skip x8  (fun x9 => ((¬ (x9 83 22) = (x9 83 1) → M_X11_here x9  (fun z11 => ((z11 = 116 → (Rg ((x9 83 22) + 1)) ∧ (∀ x14 : XM, x14 = uX x9 83 22 ((x9 83 22) + 1) → M_X11_number x14 0 100  (fun z15 x16 => ∀ x17 : XM, x17 = uX x16 83 11 z15 → M_X11_end x17  (fun x18 => M_X11_skip x18  (fun x19 => ∃ m : Nat, M_X11_read_104 q m x19))))) ∧ (¬ z11 = 116 → M_X11_fail x9 1 (x9 83 22)  (fun x27 => q x27))))) ∧ ((x9 83 22) = (x9 83 1) → q x9)))
set_option maxRecDepth 100000 in
theorem w_X11_read_104 {Γ : GE} {q : XM → Prop} : ∀ (n : Nat) (x : XM) , WX x → M_X11_read_104 q n x → V Γ 5 NF NF D_X11_read (QU Γ q) 104 [.ref (gB Γ + 83), uu] [] NF (mk Γ x) := by
  intro n
  induction n with
  | zero =>
    intro x hx h
    rw [M_X11_read_104.eq_1] at h
    exact h.elim
  | succ n ih =>
    intro x hx h
    rw [M_X11_read_104.eq_2] at h
    refine V_aload_0 dX11_read_104 ?_
    refine V_gI dX11_read_105 fl_R_82 ly_83 (by decide) wn_83_22 ?_
    refine V_aload_0 dX11_read_108 ?_
    refine V_gI dX11_read_109 fl_R_78 ly_83 (by decide) wn_83_1 ?_
    refine V_icmp_ge 159 dX11_read_112 (by decide) (hx _ _) (hx _ _) ⟨fun c20 => ?_, fun c20 => ?_⟩
    · have h := h.1 c20
      exact V_vreturn dX11_read_159 rfl ⟨_, rfl, hx, rfl, h⟩
    · have h := h.2 c20
      refine V_aload_0 dX11_read_115 ?_
      refine V_gI dX11_read_116 fl_R_89 ly_83 (by decide) wn_83_23 ?_
      refine V_if_ne 159 dX11_read_119 (by decide) (hx _ _) ⟨fun c21 => ?_, fun c21 => ?_⟩
      · have h := h.1 c21
        exact V_vreturn dX11_read_159 rfl ⟨_, rfl, hx, rfl, h⟩
      · have h := h.2 c21
        refine V_aload_0 dX11_read_122 ?_
        refine V_gI dX11_read_123 fl_R_82 ly_83 (by decide) wn_83_22 ?_
        refine V_istore_1 dX11_read_126 rfl rfl ?_
        refine V_aload_0 dX11_read_127 ?_
        refine V_dup dX11_read_128 rfl ?_
        refine V_gI dX11_read_129 fl_R_82 ly_83 (by decide) wn_83_22 ?_
        refine V_iconst dX11_read_132 ?_
        refine V_iadd dX11_read_133 ?_
        obtain ⟨g22, h⟩ := h
        refine V_pIe dX11_read_134 fl_R_82 ly_83 (by decide) wn_83_22 (fun x23 ex23 => ?_)
        have h := h x23 ex23
        have hx23 := hx.upE g22 ex23
        refine V_aload_0 dX11_read_137 ?_
        refine V_aload_0 dX11_read_138 ?_
        refine V_gR dX11_read_139 fl_R_7 ly_83 (by decide) wr_83_0 ?_
        refine V_iload_1 dX11_read_142 ?_
        obtain ⟨g24, h⟩ := h
        refine V_aB dX11_read_143 ly_84 (by decide) (by decide) g24 ?_
        refine V_sipush dX11_read_144 (by decide) ?_
        refine V_iand dX11_read_147 ?_
        refine V_iload_1 dX11_read_148 ?_
        refine V_cVU2 (My := D_X11_clause) dX11_read_149 ml_R_132 ce_X11_clause ly_83 (by decide) cl_11 (by decide) (Nat.le_refl _) (Nat.le_refl _) (by decide) (sumL rfl) (w_X11_clause hx23 (Rg.of _) (hx _ _) h) (fun x25 hx25 h => ?_)
        refine V_aload_0 dX11_read_152 ?_
        refine V_cVU0 (My := D_X11_skip) dX11_read_153 ml_R_95 ce_X11_skip ly_83 (by decide) cl_11 (by decide) (Nat.le_refl _) (Nat.le_refl _) (by decide) (sumL rfl) (w_X11_skip hx25 h) (fun x26 hx26 h => ?_)
        refine V_goto 104 dX11_read_156 (by decide) ?_
        refine V_fg_1 ?_
        exact ih _ hx26 h
set_option maxRecDepth 100000 in
theorem w_X11_read {Γ : GE} {x : XM} (hx : WX x) {q : XM → Prop} (h : M_X11_read x q) : CV Γ 5 NF NF D_X11_read [.ref (gB Γ + 83)] (mk Γ x) (QU Γ q) := by
  refine CV.of rfl (cat_all rfl) (Nat.le_of_ble_eq_true rfl) ?_
  show V Γ 5 NF NF D_X11_read (QU Γ q) 0 [.ref (gB Γ + 83), uu] [] NF (mk Γ x)
  unfold M_X11_read at h
  refine V_aload_0 dX11_read_0 ?_
  refine V_iconst dX11_read_1 ?_
  refine V_pIe dX11_read_2 fl_R_82 ly_83 (by decide) wn_83_22 (fun x1 ex1 => ?_)
  have h := h x1 ex1
  have hx1 := hx.upE (rgL rfl) ex1
  refine V_aload_0 dX11_read_5 ?_
  refine V_iconst dX11_read_6 ?_
  refine V_pIe dX11_read_7 fl_R_89 ly_83 (by decide) wn_83_23 (fun x2 ex2 => ?_)
  have h := h x2 ex2
  have hx2 := hx1.upE (rgL rfl) ex2
  refine V_aload_0 dX11_read_10 ?_
  refine V_iconst dX11_read_11 ?_
  refine V_pIe dX11_read_12 fl_R_92 ly_83 (by decide) wn_83_24 (fun x3 ex3 => ?_)
  have h := h x3 ex3
  have hx3 := hx2.upE (rgL rfl) ex3
  refine V_aload_0 dX11_read_15 ?_
  refine V_iconst dX11_read_16 ?_
  refine V_pIe dX11_read_17 fl_R_129 ly_83 (by decide) wn_83_11 (fun x4 ex4 => ?_)
  have h := h x4 ex4
  have hx4 := hx3.upE (rgL rfl) ex4
  refine V_aload_0 dX11_read_20 ?_
  refine V_iconst dX11_read_21 ?_
  refine V_pIe dX11_read_22 fl_R_110 ly_83 (by decide) wn_83_12 (fun x5 ex5 => ?_)
  have h := h x5 ex5
  have hx5 := hx4.upE (rgL rfl) ex5
  refine V_aload_0 dX11_read_25 ?_
  refine V_iconst dX11_read_26 ?_
  refine V_pIe dX11_read_27 fl_R_117 ly_83 (by decide) wn_83_14 (fun x6 ex6 => ?_)
  have h := h x6 ex6
  have hx6 := hx5.upE (rgL rfl) ex6
  refine V_aload_0 dX11_read_30 ?_
  refine V_iconst dX11_read_31 ?_
  refine V_pIe dX11_read_32 fl_R_120 ly_83 (by decide) wn_83_16 (fun x7 ex7 => ?_)
  have h := h x7 ex7
  have hx7 := hx6.upE (rgL rfl) ex7
  refine V_aload_0 dX11_read_35 ?_
  refine V_iconst dX11_read_36 ?_
  refine V_pIe dX11_read_37 fl_R_123 ly_83 (by decide) wn_83_18 (fun x8 ex8 => ?_)
  have h := h x8 ex8
  have hx8 := hx7.upE (rgL rfl) ex8
  refine V_aload_0 dX11_read_40 ?_
  refine V_cVU0 (My := D_X11_skip) dX11_read_41 ml_R_95 ce_X11_skip ly_83 (by decide) cl_11 (by decide) (Nat.le_refl _) (Nat.le_refl _) (by decide) (sumL rfl) (w_X11_skip hx8 h) (fun x9 hx9 h => ?_)
  refine V_aload_0 dX11_read_44 ?_
  refine V_gI dX11_read_45 fl_R_82 ly_83 (by decide) wn_83_22 ?_
  refine V_aload_0 dX11_read_48 ?_
  refine V_gI dX11_read_49 fl_R_78 ly_83 (by decide) wn_83_1 ?_
  refine V_icmp_ne 56 dX11_read_52 (by decide) (hx9 _ _) (hx9 _ _) ⟨fun c10 => ?_, fun c10 => ?_⟩
  · have h := h.1 c10
    refine V_aload_0 dX11_read_56 ?_
    refine V_cVI0 (My := D_X11_here) dX11_read_57 ml_R_85 ce_X11_here ly_83 (by decide) cl_11 (by decide) (Nat.le_refl _) (Nat.le_refl _) (by decide) (sumL rfl) (w_X11_here hx9 h) (fun z11 hz11 h => ?_)
    refine V_bipush dX11_read_60 (by decide) ?_
    refine V_icmp_eq 75 dX11_read_62 (by decide) hz11 (rgL rfl) ⟨fun c12 => ?_, fun c12 => ?_⟩
    · have h := h.1 c12
      refine V_aload_0 dX11_read_75 ?_
      refine V_dup dX11_read_76 rfl ?_
      refine V_gI dX11_read_77 fl_R_82 ly_83 (by decide) wn_83_22 ?_
      refine V_iconst dX11_read_80 ?_
      refine V_iadd dX11_read_81 ?_
      obtain ⟨g13, h⟩ := h
      refine V_pIe dX11_read_82 fl_R_82 ly_83 (by decide) wn_83_22 (fun x14 ex14 => ?_)
      have h := h x14 ex14
      have hx14 := hx9.upE g13 ex14
      refine V_aload_0 dX11_read_85 ?_
      refine V_aload_0 dX11_read_86 ?_
      refine V_iconst dX11_read_87 ?_
      refine V_bipush dX11_read_88 (by decide) ?_
      refine V_cVE2 (My := D_X11_number) dX11_read_90 ml_R_106 ce_X11_number ly_83 (by decide) cl_11 (by decide) (Nat.le_refl _) (Nat.le_refl _) (by decide) (sumL rfl) (w_X11_number hx14 (rgL rfl) (rgL rfl) h) (fun z15 x16 hx16 hz15 h => ?_)
      refine V_pIe dX11_read_93 fl_R_129 ly_83 (by decide) wn_83_11 (fun x17 ex17 => ?_)
      have h := h x17 ex17
      have hx17 := hx16.upE hz15 ex17
      refine V_aload_0 dX11_read_96 ?_
      refine V_cVU0 (My := D_X11_end) dX11_read_97 ml_R_126 ce_X11_end ly_83 (by decide) cl_11 (by decide) (Nat.le_refl _) (Nat.le_refl _) (by decide) (sumL rfl) (w_X11_end hx17 h) (fun x18 hx18 h => ?_)
      refine V_aload_0 dX11_read_100 ?_
      refine V_cVU0 (My := D_X11_skip) dX11_read_101 ml_R_95 ce_X11_skip ly_83 (by decide) cl_11 (by decide) (Nat.le_refl _) (Nat.le_refl _) (by decide) (sumL rfl) (w_X11_skip hx18 h) (fun x19 hx19 h => ?_)
      obtain ⟨m9, h⟩ := h
      exact w_X11_read_104 m9 _ hx19 h
    · have h := h.2 c12
      refine V_aload_0 dX11_read_65 ?_
      refine V_iconst dX11_read_66 ?_
      refine V_aload_0 dX11_read_67 ?_
      refine V_gI dX11_read_68 fl_R_82 ly_83 (by decide) wn_83_22 ?_
      refine V_cVU2 (My := D_X11_fail) dX11_read_71 ml_R_102 ce_X11_fail ly_83 (by decide) cl_11 (by decide) (Nat.le_refl _) (Nat.le_refl _) (by decide) (sumL rfl) (w_X11_fail hx9 (rgL rfl) (hx9 _ _) h) (fun x27 hx27 h => ?_)
      exact V_vreturn dX11_read_74 rfl ⟨_, rfl, hx27, rfl, h⟩
  · have h := h.2 c10
    exact V_vreturn dX11_read_55 rfl ⟨_, rfl, hx9, rfl, h⟩
def M_X11_tin_272 (q : Int → XM → Prop) : Nat → XM → Int → Prop
  | 0, _, _ => False
  | n + 1, x, v2 =>
  ((6 ≤ v2 → ∀ x23 : XM, x23 = uX x 83 27 0 → ∀ x24 : XM, x24 = uX x23 83 38 0 → ∀ x25 : XM, x25 = uX x24 97 0 0 → ∀ x26 : XM, x26 = uX x25 97 1 0 → q (x26 83 3) x26) ∧ (¬ (6 ≤ v2) → (0 ≤ (24 + v2) ∧ (24 + v2) < 31) ∧ (∀ x28 : XM, x28 = uX x 93 (((24 + v2)).toNat) v2 → (Rg (v2 + 1)) ∧ (M_X11_tin_272 q n) x28 (v2 + 1))))
def M_X11_tin_237 (q : Int → XM → Prop) : Nat → XM → Int → Prop
  | 0, _, _ => False
  | n + 1, x, v2 =>
  (((x 83 3) ≤ v2 → ∃ m : Nat, M_X11_tin_272 q m x 0) ∧ (¬ ((x 83 3) ≤ v2) → (0 ≤ ((4 * v2) + 3) ∧ ((4 * v2) + 3) < 48) ∧ (0 ≤ (12 + v2) ∧ (12 + v2) < 31) ∧ (∀ x32 : XM, x32 = uX x 93 (((12 + v2)).toNat) (x 85 ((((4 * v2) + 3)).toNat)) → (Rg (v2 + 1)) ∧ (M_X11_tin_237 q n) x32 (v2 + 1))))
def M_X11_tin_216 (q : Int → XM → Prop) : Nat → XM → Int → Prop
  | 0, _, _ => False
  | n + 1, x, v2 =>
  ((31 ≤ v2 → ∃ m : Nat, M_X11_tin_237 q m x 0) ∧ (¬ (31 ≤ v2) → (0 ≤ v2 ∧ v2 < 31) ∧ (∀ x35 : XM, x35 = uX x 93 (v2.toNat) 0 → (Rg (v2 + 1)) ∧ (M_X11_tin_216 q n) x35 (v2 + 1))))
def M_X11_tin_191 (q : Int → XM → Prop) : Nat → XM → Int → Prop
  | 0, _, _ => False
  | n + 1, x, v2 =>
  ((5 ≤ v2 → ∃ m : Nat, M_X11_tin_216 q m x 0) ∧ (¬ (5 ≤ v2) → (0 ≤ v2 ∧ v2 < 5) ∧ (0 ≤ v2 ∧ v2 < 5) ∧ (∀ x39 : XM, x39 = uX x 88 (v2.toNat) (x 92 (v2.toNat)) → (Rg (v2 + 1)) ∧ (M_X11_tin_191 q n) x39 (v2 + 1))))
def M_X11_tin_165 (q : Int → XM → Prop) : Nat → XM → Int → Prop
  | 0, _, _ => False
  | n + 1, x, v2 =>
  ((20 ≤ v2 → ∃ m : Nat, M_X11_tin_191 q m x 0) ∧ (¬ (20 ≤ v2) → (0 ≤ v2 ∧ v2 < 20) ∧ (0 ≤ v2 ∧ v2 < 20) ∧ (∀ x43 : XM, x43 = uX x 87 (v2.toNat) (x 91 (v2.toNat)) → (Rg (v2 + 1)) ∧ (M_X11_tin_165 q n) x43 (v2 + 1))))
def M_X11_tin_139 (q : Int → XM → Prop) : Nat → XM → Int → Prop
  | 0, _, _ => False
  | n + 1, x, v2 =>
  ((24 ≤ v2 → ∃ m : Nat, M_X11_tin_165 q m x 0) ∧ (¬ (24 ≤ v2) → (0 ≤ v2 ∧ v2 < 24) ∧ (0 ≤ v2 ∧ v2 < 24) ∧ (∀ x47 : XM, x47 = uX x 86 (v2.toNat) (x 90 (v2.toNat)) → (Rg (v2 + 1)) ∧ (M_X11_tin_139 q n) x47 (v2 + 1))))
def M_X11_tin_113 (q : Int → XM → Prop) : Nat → XM → Int → Prop
  | 0, _, _ => False
  | n + 1, x, v2 =>
  ((48 ≤ v2 → ∃ m : Nat, M_X11_tin_139 q m x 0) ∧ (¬ (48 ≤ v2) → (0 ≤ v2 ∧ v2 < 48) ∧ (0 ≤ v2 ∧ v2 < 48) ∧ (∀ x51 : XM, x51 = uX x 85 (v2.toNat) (x 89 (v2.toNat)) → (Rg (v2 + 1)) ∧ (M_X11_tin_113 q n) x51 (v2 + 1))))
def M_X11_tin_68 (q : Int → XM → Prop) (x : XM) (s0 : Int) : Prop :=
  (s0 = 0 ∨ s0 = 1) ∧ (∀ x10 : XM, x10 = uX x 83 20 s0 → ∀ x11 : XM, x11 = uX x10 83 2 (x10 83 11) → ∀ x12 : XM, x12 = uX x11 83 3 (x11 83 12) → ∀ x13 : XM, x13 = uX x12 83 5 (x12 83 14) → ∀ x14 : XM, x14 = uX x13 83 7 (x13 83 16) → ∀ x15 : XM, x15 = uX x14 83 9 (x14 83 18) → (∃ m : Nat, M_X11_tin_113 q m x15 0))
def M_X11_tin_25 (q : Int → XM → Prop) (x : XM) (s0 : Int) : Prop :=
  M_X11_read x  (fun x4 => ∀ x5 : XM, x5 = uX x4 83 1 0 → ∀ x6 : XM, x6 = uX x5 83 21 (x5 83 24) → (((x6 83 23) = 0 → ((¬ s0 = 0 → M_X11_tin_68 q x6 0) ∧ (s0 = 0 → M_X11_tin_68 q x6 1))) ∧ (¬ (x6 83 23) = 0 → (Rg ((-10) - (x6 83 23))) ∧ q ((-10) - (x6 83 23)) x6)))
def M_X11_tin (x : XM) (q : Int → XM → Prop) : Prop :=
  ∀ x1 : XM, x1 = uX x 83 22 0 → M_X11_skip x1  (fun x2 => ((¬ (x2 83 22) = (x2 83 1) → M_X11_tin_25 q x2 0) ∧ ((x2 83 22) = (x2 83 1) → M_X11_tin_25 q x2 1)))
set_option maxRecDepth 100000 in
theorem w_X11_tin_272 {Γ : GE} {q : Int → XM → Prop} : ∀ (n : Nat) (x : XM) (v2 : Int) , WX x → Rg v2 → M_X11_tin_272 q n x v2 → V Γ 6 NF NF D_X11_tin (QE Γ q) 272 [.ref (gB Γ + 83), uu, vI v2] [] NF (mk Γ x) := by
  intro n
  induction n with
  | zero =>
    intro x v2 hx r2 h
    rw [M_X11_tin_272.eq_1] at h
    exact h.elim
  | succ n ih =>
    intro x v2 hx r2 h
    rw [M_X11_tin_272.eq_2] at h
    refine V_iload_2 dX11_tin_272 ?_
    refine V_bipush dX11_tin_273 (by decide) ?_
    refine V_icmp_ge 294 dX11_tin_275 (by decide) r2 (rgL rfl) ⟨fun c22 => ?_, fun c22 => ?_⟩
    · have h := h.1 c22
      refine V_aload_0 dX11_tin_294 ?_
      refine V_iconst dX11_tin_295 ?_
      refine V_pIe dX11_tin_296 fl_R_157 ly_83 (by decide) wn_83_27 (fun x23 ex23 => ?_)
      have h := h x23 ex23
      have hx23 := hx.upE (rgL rfl) ex23
      refine V_aload_0 dX11_tin_299 ?_
      refine V_iconst dX11_tin_300 ?_
      refine V_pIe dX11_tin_301 fl_R_160 ly_83 (by decide) wn_83_38 (fun x24 ex24 => ?_)
      have h := h x24 ex24
      have hx24 := hx23.upE (rgL rfl) ex24
      refine V_aload_0 dX11_tin_304 ?_
      refine V_gR dX11_tin_305 fl_R_50 ly_83 (by decide) wr_83_30 ?_
      refine V_iconst dX11_tin_308 ?_
      refine V_iconst dX11_tin_309 ?_
      refine V_sZe dX11_tin_310 ly_97 (by decide) (by decide) (ibd rfl) (Or.inl rfl) (fun x25 ex25 => ?_)
      have h := h x25 ex25
      have hx25 := hx24.upE (rgL rfl) ex25
      refine V_aload_0 dX11_tin_311 ?_
      refine V_gR dX11_tin_312 fl_R_50 ly_83 (by decide) wr_83_30 ?_
      refine V_iconst dX11_tin_315 ?_
      refine V_iconst dX11_tin_316 ?_
      refine V_sZe dX11_tin_317 ly_97 (by decide) (by decide) (ibd rfl) (Or.inl rfl) (fun x26 ex26 => ?_)
      have h := h x26 ex26
      have hx26 := hx25.upE (rgL rfl) ex26
      refine V_aload_0 dX11_tin_318 ?_
      refine V_gI dX11_tin_319 fl_R_145 ly_83 (by decide) wn_83_3 ?_
      exact V_ireturn dX11_tin_322 rfl ⟨_, _, rfl, hx26, rfl, (hx26 _ _), h⟩
    · have h := h.2 c22
      refine V_aload_0 dX11_tin_278 ?_
      refine V_gR dX11_tin_279 fl_R_38 ly_83 (by decide) wr_83_25 ?_
      refine V_bipush dX11_tin_282 (by decide) ?_
      refine V_iload_2 dX11_tin_284 ?_
      refine V_iadd dX11_tin_285 ?_
      refine V_iload_2 dX11_tin_286 ?_
      obtain ⟨g27, h⟩ := h
      refine V_sIe dX11_tin_287 ly_93 (by decide) (by decide) g27 (fun x28 ex28 => ?_)
      have h := h x28 ex28
      have hx28 := hx.upE r2 ex28
      refine V_iinc_2 (a2 := uu) dX11_tin_288 rfl ?_
      refine V_goto 272 dX11_tin_291 (by decide) ?_
      obtain ⟨g29, h⟩ := h
      exact ih _ _ hx28 g29 h
set_option maxRecDepth 100000 in
theorem w_X11_tin_237 {Γ : GE} {q : Int → XM → Prop} : ∀ (n : Nat) (x : XM) (v2 : Int) , WX x → Rg v2 → M_X11_tin_237 q n x v2 → V Γ 6 NF NF D_X11_tin (QE Γ q) 237 [.ref (gB Γ + 83), uu, vI v2] [] NF (mk Γ x) := by
  intro n
  induction n with
  | zero =>
    intro x v2 hx r2 h
    rw [M_X11_tin_237.eq_1] at h
    exact h.elim
  | succ n ih =>
    intro x v2 hx r2 h
    rw [M_X11_tin_237.eq_2] at h
    refine V_iload_2 dX11_tin_237 ?_
    refine V_aload_0 dX11_tin_238 ?_
    refine V_gI dX11_tin_239 fl_R_145 ly_83 (by decide) wn_83_3 ?_
    refine V_icmp_ge 270 dX11_tin_242 (by decide) r2 (hx _ _) ⟨fun c21 => ?_, fun c21 => ?_⟩
    · have h := h.1 c21
      refine V_iconst dX11_tin_270 ?_
      refine V_istore_2 dX11_tin_271 rfl rfl ?_
      obtain ⟨m9, h⟩ := h
      exact w_X11_tin_272 m9 _ _ hx (rgL rfl) h
    · have h := h.2 c21
      refine V_aload_0 dX11_tin_245 ?_
      refine V_gR dX11_tin_246 fl_R_38 ly_83 (by decide) wr_83_25 ?_
      refine V_bipush dX11_tin_249 (by decide) ?_
      refine V_iload_2 dX11_tin_251 ?_
      refine V_iadd dX11_tin_252 ?_
      refine V_aload_0 dX11_tin_253 ?_
      refine V_gR dX11_tin_254 fl_R_13 ly_83 (by decide) wr_83_4 ?_
      refine V_iconst dX11_tin_257 ?_
      refine V_iload_2 dX11_tin_258 ?_
      refine V_imul dX11_tin_259 ?_
      refine V_iconst dX11_tin_260 ?_
      refine V_iadd dX11_tin_261 ?_
      obtain ⟨g30, h⟩ := h
      refine V_aI dX11_tin_262 ly_85 (by decide) (by decide) g30 ?_
      obtain ⟨g31, h⟩ := h
      refine V_sIe dX11_tin_263 ly_93 (by decide) (by decide) g31 (fun x32 ex32 => ?_)
      have h := h x32 ex32
      have hx32 := hx.upE (hx _ _) ex32
      refine V_iinc_2 (a2 := uu) dX11_tin_264 rfl ?_
      refine V_goto 237 dX11_tin_267 (by decide) ?_
      obtain ⟨g33, h⟩ := h
      exact ih _ _ hx32 g33 h
set_option maxRecDepth 100000 in
theorem w_X11_tin_216 {Γ : GE} {q : Int → XM → Prop} : ∀ (n : Nat) (x : XM) (v2 : Int) , WX x → Rg v2 → M_X11_tin_216 q n x v2 → V Γ 6 NF NF D_X11_tin (QE Γ q) 216 [.ref (gB Γ + 83), uu, vI v2] [] NF (mk Γ x) := by
  intro n
  induction n with
  | zero =>
    intro x v2 hx r2 h
    rw [M_X11_tin_216.eq_1] at h
    exact h.elim
  | succ n ih =>
    intro x v2 hx r2 h
    rw [M_X11_tin_216.eq_2] at h
    refine V_iload_2 dX11_tin_216 ?_
    refine V_bipush dX11_tin_217 (by decide) ?_
    refine V_icmp_ge 235 dX11_tin_219 (by decide) r2 (rgL rfl) ⟨fun c20 => ?_, fun c20 => ?_⟩
    · have h := h.1 c20
      refine V_iconst dX11_tin_235 ?_
      refine V_istore_2 dX11_tin_236 rfl rfl ?_
      obtain ⟨m9, h⟩ := h
      exact w_X11_tin_237 m9 _ _ hx (rgL rfl) h
    · have h := h.2 c20
      refine V_aload_0 dX11_tin_222 ?_
      refine V_gR dX11_tin_223 fl_R_38 ly_83 (by decide) wr_83_25 ?_
      refine V_iload_2 dX11_tin_226 ?_
      refine V_iconst dX11_tin_227 ?_
      obtain ⟨g34, h⟩ := h
      refine V_sIe dX11_tin_228 ly_93 (by decide) (by decide) g34 (fun x35 ex35 => ?_)
      have h := h x35 ex35
      have hx35 := hx.upE (rgL rfl) ex35
      refine V_iinc_2 (a2 := uu) dX11_tin_229 rfl ?_
      refine V_goto 216 dX11_tin_232 (by decide) ?_
      obtain ⟨g36, h⟩ := h
      exact ih _ _ hx35 g36 h
set_option maxRecDepth 100000 in
theorem w_X11_tin_191 {Γ : GE} {q : Int → XM → Prop} : ∀ (n : Nat) (x : XM) (v2 : Int) , WX x → Rg v2 → M_X11_tin_191 q n x v2 → V Γ 6 NF NF D_X11_tin (QE Γ q) 191 [.ref (gB Γ + 83), uu, vI v2] [] NF (mk Γ x) := by
  intro n
  induction n with
  | zero =>
    intro x v2 hx r2 h
    rw [M_X11_tin_191.eq_1] at h
    exact h.elim
  | succ n ih =>
    intro x v2 hx r2 h
    rw [M_X11_tin_191.eq_2] at h
    refine V_iload_2 dX11_tin_191 ?_
    refine V_iconst dX11_tin_192 ?_
    refine V_icmp_ge 214 dX11_tin_193 (by decide) r2 (rgL rfl) ⟨fun c19 => ?_, fun c19 => ?_⟩
    · have h := h.1 c19
      refine V_iconst dX11_tin_214 ?_
      refine V_istore_2 dX11_tin_215 rfl rfl ?_
      obtain ⟨m9, h⟩ := h
      exact w_X11_tin_216 m9 _ _ hx (rgL rfl) h
    · have h := h.2 c19
      refine V_aload_0 dX11_tin_196 ?_
      refine V_gR dX11_tin_197 fl_R_23 ly_83 (by decide) wr_83_10 ?_
      refine V_iload_2 dX11_tin_200 ?_
      refine V_aload_0 dX11_tin_201 ?_
      refine V_gR dX11_tin_202 fl_R_35 ly_83 (by decide) wr_83_19 ?_
      refine V_iload_2 dX11_tin_205 ?_
      obtain ⟨g37, h⟩ := h
      refine V_aI dX11_tin_206 ly_92 (by decide) (by decide) g37 ?_
      obtain ⟨g38, h⟩ := h
      refine V_sIe dX11_tin_207 ly_88 (by decide) (by decide) g38 (fun x39 ex39 => ?_)
      have h := h x39 ex39
      have hx39 := hx.upE (hx _ _) ex39
      refine V_iinc_2 (a2 := uu) dX11_tin_208 rfl ?_
      refine V_goto 191 dX11_tin_211 (by decide) ?_
      obtain ⟨g40, h⟩ := h
      exact ih _ _ hx39 g40 h
set_option maxRecDepth 100000 in
theorem w_X11_tin_165 {Γ : GE} {q : Int → XM → Prop} : ∀ (n : Nat) (x : XM) (v2 : Int) , WX x → Rg v2 → M_X11_tin_165 q n x v2 → V Γ 6 NF NF D_X11_tin (QE Γ q) 165 [.ref (gB Γ + 83), uu, vI v2] [] NF (mk Γ x) := by
  intro n
  induction n with
  | zero =>
    intro x v2 hx r2 h
    rw [M_X11_tin_165.eq_1] at h
    exact h.elim
  | succ n ih =>
    intro x v2 hx r2 h
    rw [M_X11_tin_165.eq_2] at h
    refine V_iload_2 dX11_tin_165 ?_
    refine V_bipush dX11_tin_166 (by decide) ?_
    refine V_icmp_ge 189 dX11_tin_168 (by decide) r2 (rgL rfl) ⟨fun c18 => ?_, fun c18 => ?_⟩
    · have h := h.1 c18
      refine V_iconst dX11_tin_189 ?_
      refine V_istore_2 dX11_tin_190 rfl rfl ?_
      obtain ⟨m9, h⟩ := h
      exact w_X11_tin_191 m9 _ _ hx (rgL rfl) h
    · have h := h.2 c18
      refine V_aload_0 dX11_tin_171 ?_
      refine V_gR dX11_tin_172 fl_R_20 ly_83 (by decide) wr_83_8 ?_
      refine V_iload_2 dX11_tin_175 ?_
      refine V_aload_0 dX11_tin_176 ?_
      refine V_gR dX11_tin_177 fl_R_32 ly_83 (by decide) wr_83_17 ?_
      refine V_iload_2 dX11_tin_180 ?_
      obtain ⟨g41, h⟩ := h
      refine V_aI dX11_tin_181 ly_91 (by decide) (by decide) g41 ?_
      obtain ⟨g42, h⟩ := h
      refine V_sIe dX11_tin_182 ly_87 (by decide) (by decide) g42 (fun x43 ex43 => ?_)
      have h := h x43 ex43
      have hx43 := hx.upE (hx _ _) ex43
      refine V_iinc_2 (a2 := uu) dX11_tin_183 rfl ?_
      refine V_goto 165 dX11_tin_186 (by decide) ?_
      obtain ⟨g44, h⟩ := h
      exact ih _ _ hx43 g44 h
set_option maxRecDepth 100000 in
theorem w_X11_tin_139 {Γ : GE} {q : Int → XM → Prop} : ∀ (n : Nat) (x : XM) (v2 : Int) , WX x → Rg v2 → M_X11_tin_139 q n x v2 → V Γ 6 NF NF D_X11_tin (QE Γ q) 139 [.ref (gB Γ + 83), uu, vI v2] [] NF (mk Γ x) := by
  intro n
  induction n with
  | zero =>
    intro x v2 hx r2 h
    rw [M_X11_tin_139.eq_1] at h
    exact h.elim
  | succ n ih =>
    intro x v2 hx r2 h
    rw [M_X11_tin_139.eq_2] at h
    refine V_iload_2 dX11_tin_139 ?_
    refine V_bipush dX11_tin_140 (by decide) ?_
    refine V_icmp_ge 163 dX11_tin_142 (by decide) r2 (rgL rfl) ⟨fun c17 => ?_, fun c17 => ?_⟩
    · have h := h.1 c17
      refine V_iconst dX11_tin_163 ?_
      refine V_istore_2 dX11_tin_164 rfl rfl ?_
      obtain ⟨m9, h⟩ := h
      exact w_X11_tin_165 m9 _ _ hx (rgL rfl) h
    · have h := h.2 c17
      refine V_aload_0 dX11_tin_145 ?_
      refine V_gR dX11_tin_146 fl_R_17 ly_83 (by decide) wr_83_6 ?_
      refine V_iload_2 dX11_tin_149 ?_
      refine V_aload_0 dX11_tin_150 ?_
      refine V_gR dX11_tin_151 fl_R_29 ly_83 (by decide) wr_83_15 ?_
      refine V_iload_2 dX11_tin_154 ?_
      obtain ⟨g45, h⟩ := h
      refine V_aI dX11_tin_155 ly_90 (by decide) (by decide) g45 ?_
      obtain ⟨g46, h⟩ := h
      refine V_sIe dX11_tin_156 ly_86 (by decide) (by decide) g46 (fun x47 ex47 => ?_)
      have h := h x47 ex47
      have hx47 := hx.upE (hx _ _) ex47
      refine V_iinc_2 (a2 := uu) dX11_tin_157 rfl ?_
      refine V_goto 139 dX11_tin_160 (by decide) ?_
      obtain ⟨g48, h⟩ := h
      exact ih _ _ hx47 g48 h
set_option maxRecDepth 100000 in
theorem w_X11_tin_113 {Γ : GE} {q : Int → XM → Prop} : ∀ (n : Nat) (x : XM) (v2 : Int) , WX x → Rg v2 → M_X11_tin_113 q n x v2 → V Γ 6 NF NF D_X11_tin (QE Γ q) 113 [.ref (gB Γ + 83), uu, vI v2] [] NF (mk Γ x) := by
  intro n
  induction n with
  | zero =>
    intro x v2 hx r2 h
    rw [M_X11_tin_113.eq_1] at h
    exact h.elim
  | succ n ih =>
    intro x v2 hx r2 h
    rw [M_X11_tin_113.eq_2] at h
    refine V_iload_2 dX11_tin_113 ?_
    refine V_bipush dX11_tin_114 (by decide) ?_
    refine V_icmp_ge 137 dX11_tin_116 (by decide) r2 (rgL rfl) ⟨fun c16 => ?_, fun c16 => ?_⟩
    · have h := h.1 c16
      refine V_iconst dX11_tin_137 ?_
      refine V_istore_2 dX11_tin_138 rfl rfl ?_
      obtain ⟨m9, h⟩ := h
      exact w_X11_tin_139 m9 _ _ hx (rgL rfl) h
    · have h := h.2 c16
      refine V_aload_0 dX11_tin_119 ?_
      refine V_gR dX11_tin_120 fl_R_13 ly_83 (by decide) wr_83_4 ?_
      refine V_iload_2 dX11_tin_123 ?_
      refine V_aload_0 dX11_tin_124 ?_
      refine V_gR dX11_tin_125 fl_R_26 ly_83 (by decide) wr_83_13 ?_
      refine V_iload_2 dX11_tin_128 ?_
      obtain ⟨g49, h⟩ := h
      refine V_aI dX11_tin_129 ly_89 (by decide) (by decide) g49 ?_
      obtain ⟨g50, h⟩ := h
      refine V_sIe dX11_tin_130 ly_85 (by decide) (by decide) g50 (fun x51 ex51 => ?_)
      have h := h x51 ex51
      have hx51 := hx.upE (hx _ _) ex51
      refine V_iinc_2 (a2 := uu) dX11_tin_131 rfl ?_
      refine V_goto 113 dX11_tin_134 (by decide) ?_
      obtain ⟨g52, h⟩ := h
      exact ih _ _ hx51 g52 h
set_option maxRecDepth 100000 in
theorem w_X11_tin_68 {Γ : GE} {q : Int → XM → Prop} : ∀ (x : XM) (s0 : Int) , WX x → Rg s0 → M_X11_tin_68 q x s0 → V Γ 6 NF NF D_X11_tin (QE Γ q) 68 [.ref (gB Γ + 83), uu, uu] [vI s0, .ref (gB Γ + 83)] NF (mk Γ x) := by
  intro x s0 hx rs0 h
  unfold M_X11_tin_68 at h
  obtain ⟨g9, h⟩ := h
  refine V_pZe dX11_tin_68 fl_R_138 ly_83 (by decide) wn_83_20 g9 (fun x10 ex10 => ?_)
  have h := h x10 ex10
  have hx10 := hx.upE rs0 ex10
  refine V_aload_0 dX11_tin_71 ?_
  refine V_aload_0 dX11_tin_72 ?_
  refine V_gI dX11_tin_73 fl_R_129 ly_83 (by decide) wn_83_11 ?_
  refine V_pIe dX11_tin_76 fl_R_142 ly_83 (by decide) wn_83_2 (fun x11 ex11 => ?_)
  have h := h x11 ex11
  have hx11 := hx10.upE (hx10 _ _) ex11
  refine V_aload_0 dX11_tin_79 ?_
  refine V_aload_0 dX11_tin_80 ?_
  refine V_gI dX11_tin_81 fl_R_110 ly_83 (by decide) wn_83_12 ?_
  refine V_pIe dX11_tin_84 fl_R_145 ly_83 (by decide) wn_83_3 (fun x12 ex12 => ?_)
  have h := h x12 ex12
  have hx12 := hx11.upE (hx11 _ _) ex12
  refine V_aload_0 dX11_tin_87 ?_
  refine V_aload_0 dX11_tin_88 ?_
  refine V_gI dX11_tin_89 fl_R_117 ly_83 (by decide) wn_83_14 ?_
  refine V_pIe dX11_tin_92 fl_R_148 ly_83 (by decide) wn_83_5 (fun x13 ex13 => ?_)
  have h := h x13 ex13
  have hx13 := hx12.upE (hx12 _ _) ex13
  refine V_aload_0 dX11_tin_95 ?_
  refine V_aload_0 dX11_tin_96 ?_
  refine V_gI dX11_tin_97 fl_R_120 ly_83 (by decide) wn_83_16 ?_
  refine V_pIe dX11_tin_100 fl_R_151 ly_83 (by decide) wn_83_7 (fun x14 ex14 => ?_)
  have h := h x14 ex14
  have hx14 := hx13.upE (hx13 _ _) ex14
  refine V_aload_0 dX11_tin_103 ?_
  refine V_aload_0 dX11_tin_104 ?_
  refine V_gI dX11_tin_105 fl_R_123 ly_83 (by decide) wn_83_18 ?_
  refine V_pIe dX11_tin_108 fl_R_154 ly_83 (by decide) wn_83_9 (fun x15 ex15 => ?_)
  have h := h x15 ex15
  have hx15 := hx14.upE (hx14 _ _) ex15
  refine V_iconst dX11_tin_111 ?_
  refine V_istore_2 dX11_tin_112 rfl rfl ?_
  obtain ⟨m9, h⟩ := h
  exact w_X11_tin_113 m9 _ _ hx15 (rgL rfl) h
set_option maxRecDepth 100000 in
theorem w_X11_tin_25 {Γ : GE} {q : Int → XM → Prop} : ∀ (x : XM) (s0 : Int) , WX x → Rg s0 → M_X11_tin_25 q x s0 → V Γ 6 NF NF D_X11_tin (QE Γ q) 25 [.ref (gB Γ + 83), uu, uu] [vI s0] NF (mk Γ x) := by
  intro x s0 hx rs0 h
  unfold M_X11_tin_25 at h
  refine V_istore_1 dX11_tin_25 rfl rfl ?_
  refine V_aload_0 dX11_tin_26 ?_
  refine V_cVU0 (My := D_X11_read) dX11_tin_27 ml_R_135 ce_X11_read ly_83 (by decide) cl_11 (by decide) (Nat.le_refl _) (Nat.le_refl _) (by decide) (sumL rfl) (w_X11_read hx h) (fun x4 hx4 h => ?_)
  refine V_aload_0 dX11_tin_30 ?_
  refine V_iconst dX11_tin_31 ?_
  refine V_pIe dX11_tin_32 fl_R_78 ly_83 (by decide) wn_83_1 (fun x5 ex5 => ?_)
  have h := h x5 ex5
  have hx5 := hx4.upE (rgL rfl) ex5
  refine V_aload_0 dX11_tin_35 ?_
  refine V_aload_0 dX11_tin_36 ?_
  refine V_gI dX11_tin_37 fl_R_92 ly_83 (by decide) wn_83_24 ?_
  refine V_pIe dX11_tin_40 fl_R_69 ly_83 (by decide) wn_83_21 (fun x6 ex6 => ?_)
  have h := h x6 ex6
  have hx6 := hx5.upE (hx5 _ _) ex6
  refine V_aload_0 dX11_tin_43 ?_
  refine V_gI dX11_tin_44 fl_R_89 ly_83 (by decide) wn_83_23 ?_
  refine V_if_eq 58 dX11_tin_47 (by decide) (hx6 _ _) ⟨fun c7 => ?_, fun c7 => ?_⟩
  · have h := h.1 c7
    refine V_aload_0 dX11_tin_58 ?_
    refine V_iload_1 dX11_tin_59 ?_
    refine V_if_ne 67 dX11_tin_60 (by decide) rs0 ⟨fun c8 => ?_, fun c8 => ?_⟩
    · have h := h.1 c8
      refine V_iconst dX11_tin_67 ?_
      refine V_fg_1 ?_
      exact w_X11_tin_68 _ _ hx6 (rgL rfl) h
    · have h := h.2 c8
      refine V_iconst dX11_tin_63 ?_
      refine V_goto 68 dX11_tin_64 (by decide) ?_
      refine V_fg_1 ?_
      exact w_X11_tin_68 _ _ hx6 (rgL rfl) h
  · have h := h.2 c7
    refine V_bipush dX11_tin_50 (by decide) ?_
    refine V_aload_0 dX11_tin_52 ?_
    refine V_gI dX11_tin_53 fl_R_89 ly_83 (by decide) wn_83_23 ?_
    refine V_isub dX11_tin_56 ?_
    obtain ⟨g53, h⟩ := h
    exact V_ireturn dX11_tin_57 rfl ⟨_, _, rfl, hx6, rfl, g53, h⟩
set_option maxRecDepth 100000 in
theorem w_X11_tin {Γ : GE} {x : XM} (hx : WX x) {q : Int → XM → Prop} (h : M_X11_tin x q) : CV Γ 6 NF NF D_X11_tin [.ref (gB Γ + 83)] (mk Γ x) (QE Γ q) := by
  refine CV.of rfl (cat_all rfl) (Nat.le_of_ble_eq_true rfl) ?_
  show V Γ 6 NF NF D_X11_tin (QE Γ q) 0 [.ref (gB Γ + 83), uu, uu] [] NF (mk Γ x)
  unfold M_X11_tin at h
  refine V_aload_0 dX11_tin_0 ?_
  refine V_iconst dX11_tin_1 ?_
  refine V_pIe dX11_tin_2 fl_R_82 ly_83 (by decide) wn_83_22 (fun x1 ex1 => ?_)
  have h := h x1 ex1
  have hx1 := hx.upE (rgL rfl) ex1
  refine V_aload_0 dX11_tin_5 ?_
  refine V_cVU0 (My := D_X11_skip) dX11_tin_6 ml_R_95 ce_X11_skip ly_83 (by decide) cl_11 (by decide) (Nat.le_refl _) (Nat.le_refl _) (by decide) (sumL rfl) (w_X11_skip hx1 h) (fun x2 hx2 h => ?_)
  refine V_aload_0 dX11_tin_9 ?_
  refine V_gI dX11_tin_10 fl_R_82 ly_83 (by decide) wn_83_22 ?_
  refine V_aload_0 dX11_tin_13 ?_
  refine V_gI dX11_tin_14 fl_R_78 ly_83 (by decide) wn_83_1 ?_
  refine V_icmp_ne 24 dX11_tin_17 (by decide) (hx2 _ _) (hx2 _ _) ⟨fun c3 => ?_, fun c3 => ?_⟩
  · have h := h.1 c3
    refine V_iconst dX11_tin_24 ?_
    exact w_X11_tin_25 _ _ hx2 (rgL rfl) h
  · have h := h.2 c3
    refine V_iconst dX11_tin_20 ?_
    refine V_goto 25 dX11_tin_21 (by decide) ?_
    exact w_X11_tin_25 _ _ hx2 (rgL rfl) h
def M_X10_fault (x : XM) (q : Int → Prop) : Prop :=
  q (x 0 9)
set_option maxRecDepth 100000 in
theorem w_X10_fault {Γ : GE} {x : XM} (hx : WX x) {q : Int → Prop} (h : M_X10_fault x q) : CV Γ 0 NF NF D_X10_fault [.ref (gB Γ + 0)] (mk Γ x) (QI Γ x q) := by
  refine CV.of rfl (cat_all rfl) (Nat.le_of_ble_eq_true rfl) ?_
  show V Γ 0 NF NF D_X10_fault (QI Γ x q) 0 [.ref (gB Γ + 0)] [] NF (mk Γ x)
  unfold M_X10_fault at h
  refine V_aload_0 dX10_fault_0 ?_
  refine V_gI dX10_fault_1 fl_T_73 ly_0 (by decide) wn_0_9 ?_
  exact V_ireturn dX10_fault_4 rfl ⟨rfl, _, rfl, (hx _ _), h⟩
def M_X11_fault (x : XM) (q : Int → Prop) : Prop :=
  q (x 83 21)
set_option maxRecDepth 100000 in
theorem w_X11_fault {Γ : GE} {x : XM} (hx : WX x) {q : Int → Prop} (h : M_X11_fault x q) : CV Γ 0 NF NF D_X11_fault [.ref (gB Γ + 83)] (mk Γ x) (QI Γ x q) := by
  refine CV.of rfl (cat_all rfl) (Nat.le_of_ble_eq_true rfl) ?_
  show V Γ 0 NF NF D_X11_fault (QI Γ x q) 0 [.ref (gB Γ + 83)] [] NF (mk Γ x)
  unfold M_X11_fault at h
  refine V_aload_0 dX11_fault_0 ?_
  refine V_gI dX11_fault_1 fl_R_69 ly_83 (by decide) wn_83_21 ?_
  exact V_ireturn dX11_fault_4 rfl ⟨rfl, _, rfl, (hx _ _), h⟩
def M_X0_errs (x : XM) (q : Int → Prop) : Prop :=
  M_X0_count x 0  (fun z1 => ((¬ z1 = 0 → M_X9_value (x 3 1) x 0 0 0  (fun z3 => q z3)) ∧ (z1 = 0 → q 0)))
set_option maxRecDepth 100000 in
theorem w_X0_errs {Γ : GE} {x : XM} (hx : WX x) {q : Int → Prop} (h : M_X0_errs x q) : CV Γ 1 NF NF D_X0_errs [.ref (gB Γ + 3)] (mk Γ x) (QI Γ x q) := by
  refine CV.of rfl (cat_all rfl) (Nat.le_of_ble_eq_true rfl) ?_
  show V Γ 1 NF NF D_X0_errs (QI Γ x q) 0 [.ref (gB Γ + 3)] [] NF (mk Γ x)
  unfold M_X0_errs at h
  refine V_aload_0 dX0_errs_0 ?_
  refine V_iconst dX0_errs_1 ?_
  refine V_cVI1 (My := D_X0_count) dX0_errs_2 ml_Bench_29 ce_X0_count ly_3 (by decide) cl_0 (by decide) (Nat.le_refl _) (Nat.le_refl _) (by decide) (sumL rfl) (w_X0_count hx (rgL rfl) h) (fun z1 hz1 h => ?_)
  refine V_if_ne 12 dX0_errs_5 (by decide) hz1 ⟨fun c2 => ?_, fun c2 => ?_⟩
  · have h := h.1 c2
    refine V_aload_0 dX0_errs_12 ?_
    refine V_gR dX0_errs_13 fl_Bench_21 ly_3 (by decide) wr_3_1 ?_
    refine V_iconst dX0_errs_16 ?_
    refine V_iconst dX0_errs_17 ?_
    refine V_iconst dX0_errs_18 ?_
    refine V_cVI3 (My := D_X9_value) dX0_errs_19 ml_Bench_32 ce_X9_value (tid_f (x 3 1)).1 (by decide) cl_9 (tid_b0 (x 3 1)) (Nat.le_refl _) (Nat.le_refl _) (by decide) (sumL rfl) (w_X9_value hx (rgL rfl) (rgL rfl) (rgL rfl) h) (fun z3 hz3 h => ?_)
    exact V_ireturn dX0_errs_22 rfl ⟨rfl, _, rfl, hz3, h⟩
  · have h := h.2 c2
    refine V_iconst dX0_errs_8 ?_
    refine V_goto 22 dX0_errs_9 (by decide) ?_
    exact V_ireturn dX0_errs_22 rfl ⟨rfl, _, rfl, (rgL rfl), h⟩
def M_X0_from_5 (q : Int → Prop) (x : XM) : Nat → Int → Int → Int → Int → Prop
  | 0, _, _, _, _ => False
  | n + 1, v1, v2, v3, v4 =>
  M_X0_count x 1  (fun z1 => ((z1 ≤ v4 → q v3) ∧ (¬ (z1 ≤ v4) → (0 ≤ v4 ∧ v4 < 12) ∧ (((x 5 (v4.toNat)) < v1 → (Rg (v4 + 1)) ∧ (M_X0_from_5 q x n) v1 v2 v3 (v4 + 1)) ∧ (¬ ((x 5 (v4.toNat)) < v1) → (0 ≤ v4 ∧ v4 < 12) ∧ ((v2 ≤ (x 5 (v4.toNat)) → (Rg (v4 + 1)) ∧ (M_X0_from_5 q x n) v1 v2 v3 (v4 + 1)) ∧ (¬ (v2 ≤ (x 5 (v4.toNat))) → (Rg (v4 + 1)) ∧ (M_X0_from_5 q x n) v1 v2 (jor v3 (jshl 1 v4)) (v4 + 1))))))))
def M_X0_from (x : XM) (v1 : Int) (v2 : Int) (q : Int → Prop) : Prop :=
  ∃ m : Nat, M_X0_from_5 q x m v1 v2 0 0
set_option maxRecDepth 100000 in
theorem w_X0_from_5 {Γ : GE} {q : Int → Prop} {x : XM} (hx : WX x) : ∀ (n : Nat) (v1 : Int) (v2 : Int) (v3 : Int) (v4 : Int) , Rg v1 → Rg v2 → Rg v3 → Rg v4 → M_X0_from_5 q x n v1 v2 v3 v4 → V Γ 1 NF NF D_X0_from (QI Γ x q) 5 [.ref (gB Γ + 3), vI v1, vI v2, vI v3, vI v4] [] NF (mk Γ x) := by
  intro n
  induction n with
  | zero =>
    intro v1 v2 v3 v4 r1 r2 r3 r4 h
    rw [M_X0_from_5.eq_1] at h
    exact h.elim
  | succ n ih =>
    intro v1 v2 v3 v4 r1 r2 r3 r4 h
    rw [M_X0_from_5.eq_2] at h
    refine V_iload_4 dX0_from_5 ?_
    refine V_aload_0 dX0_from_7 ?_
    refine V_iconst dX0_from_8 ?_
    refine V_cVI1 (My := D_X0_count) dX0_from_9 ml_Bench_29 ce_X0_count ly_3 (by decide) cl_0 (by decide) (Nat.le_refl _) (Nat.le_refl _) (by decide) (sumL rfl) (w_X0_count hx (rgL rfl) h) (fun z1 hz1 h => ?_)
    refine V_icmp_ge 56 dX0_from_12 (by decide) r4 hz1 ⟨fun c2 => ?_, fun c2 => ?_⟩
    · have h := h.1 c2
      refine V_iload_3 dX0_from_56 ?_
      exact V_ireturn dX0_from_57 rfl ⟨rfl, _, rfl, r3, h⟩
    · have h := h.2 c2
      refine V_aload_0 dX0_from_15 ?_
      refine V_gR dX0_from_16 fl_Bench_12 ly_3 (by decide) wr_3_0 ?_
      refine V_gR dX0_from_19 fl_Bench_49 ly_4 (by decide) (r := 5) (clo_w0 (k := 4) rfl) ?_
      refine V_iload_4 dX0_from_22 ?_
      obtain ⟨g3, h⟩ := h
      refine V_aI dX0_from_24 ly_5 (by decide) (by decide) g3 ?_
      refine V_iload_1 dX0_from_25 ?_
      refine V_icmp_lt 50 dX0_from_26 (by decide) (hx _ _) r1 ⟨fun c4 => ?_, fun c4 => ?_⟩
      · have h := h.1 c4
        refine V_iinc_4 (a4 := uu) dX0_from_50 rfl ?_
        refine V_goto 5 dX0_from_53 (by decide) ?_
        obtain ⟨g5, h⟩ := h
        exact ih _ _ _ _ r1 r2 r3 g5 h
      · have h := h.2 c4
        refine V_aload_0 dX0_from_29 ?_
        refine V_gR dX0_from_30 fl_Bench_12 ly_3 (by decide) wr_3_0 ?_
        refine V_gR dX0_from_33 fl_Bench_49 ly_4 (by decide) (r := 5) (clo_w0 (k := 4) rfl) ?_
        refine V_iload_4 dX0_from_36 ?_
        obtain ⟨g6, h⟩ := h
        refine V_aI dX0_from_38 ly_5 (by decide) (by decide) g6 ?_
        refine V_iload_2 dX0_from_39 ?_
        refine V_icmp_ge 50 dX0_from_40 (by decide) (hx _ _) r2 ⟨fun c7 => ?_, fun c7 => ?_⟩
        · have h := h.1 c7
          refine V_iinc_4 (a4 := uu) dX0_from_50 rfl ?_
          refine V_goto 5 dX0_from_53 (by decide) ?_
          obtain ⟨g8, h⟩ := h
          exact ih _ _ _ _ r1 r2 r3 g8 h
        · have h := h.2 c7
          refine V_iload_3 dX0_from_43 ?_
          refine V_iconst dX0_from_44 ?_
          refine V_iload_4 dX0_from_45 ?_
          refine V_ishl dX0_from_47 ?_
          refine V_ior dX0_from_48 ?_
          refine V_istore_3 dX0_from_49 rfl rfl ?_
          refine V_iinc_4 (a4 := uu) dX0_from_50 rfl ?_
          refine V_goto 5 dX0_from_53 (by decide) ?_
          obtain ⟨g9, h⟩ := h
          exact ih _ _ _ _ r1 r2 (Rg.of _) g9 h
set_option maxRecDepth 100000 in
theorem w_X0_from {Γ : GE} {x : XM} (hx : WX x) {v1 v2 : Int} {q : Int → Prop} (r1 : Rg v1) (r2 : Rg v2) (h : M_X0_from x v1 v2 q) : CV Γ 1 NF NF D_X0_from [.ref (gB Γ + 3), vI v1, vI v2] (mk Γ x) (QI Γ x q) := by
  refine CV.of rfl (cat_all rfl) (Nat.le_of_ble_eq_true rfl) ?_
  show V Γ 1 NF NF D_X0_from (QI Γ x q) 0 [.ref (gB Γ + 3), vI v1, vI v2, uu, uu] [] NF (mk Γ x)
  unfold M_X0_from at h
  refine V_iconst dX0_from_0 ?_
  refine V_istore_3 dX0_from_1 rfl rfl ?_
  refine V_iconst dX0_from_2 ?_
  refine V_istore_4 dX0_from_3 rfl rfl ?_
  obtain ⟨m9, h⟩ := h
  exact w_X0_from_5 hx m9 _ _ _ _ r1 r2 (rgL rfl) (rgL rfl) h
def M_X0_at (x : XM) (v1 : Int) (q : Int → Prop) : Prop :=
  (Rg (v1 + 1)) ∧ M_X0_from x v1 (v1 + 1)  (fun z2 => q z2)
set_option maxRecDepth 100000 in
theorem w_X0_at {Γ : GE} {x : XM} (hx : WX x) {v1 : Int} {q : Int → Prop} (r1 : Rg v1) (h : M_X0_at x v1 q) : CV Γ 2 NF NF D_X0_at [.ref (gB Γ + 3), vI v1] (mk Γ x) (QI Γ x q) := by
  refine CV.of rfl (cat_all rfl) (Nat.le_of_ble_eq_true rfl) ?_
  show V Γ 2 NF NF D_X0_at (QI Γ x q) 0 [.ref (gB Γ + 3), vI v1] [] NF (mk Γ x)
  unfold M_X0_at at h
  refine V_aload_0 dX0_at_0 ?_
  refine V_iload_1 dX0_at_1 ?_
  refine V_iload_1 dX0_at_2 ?_
  refine V_iconst dX0_at_3 ?_
  refine V_iadd dX0_at_4 ?_
  obtain ⟨g1, h⟩ := h
  refine V_cVI2 (My := D_X0_from) dX0_at_5 ml_Bench_52 ce_X0_from ly_3 (by decide) cl_0 (by decide) (Nat.le_refl _) (Nat.le_refl _) (by decide) (sumL rfl) (w_X0_from hx r1 g1 h) (fun z2 hz2 h => ?_)
  exact V_ireturn dX0_at_8 rfl ⟨rfl, _, rfl, hz2, h⟩
def M_X0_mark (x : XM) (v1 : Int) (v2 : Int) (q : Int → Prop) : Prop :=
  ((¬ v2 = 3 → M_X9_value (x 3 1) x 1 v1 v2  (fun z2 => q z2)) ∧ (v2 = 3 → q (jand (jshr (x 4 2) v1) 1)))
set_option maxRecDepth 100000 in
theorem w_X0_mark {Γ : GE} {x : XM} (hx : WX x) {v1 v2 : Int} {q : Int → Prop} (r1 : Rg v1) (r2 : Rg v2) (h : M_X0_mark x v1 v2 q) : CV Γ 1 NF NF D_X0_mark [.ref (gB Γ + 3), vI v1, vI v2] (mk Γ x) (QI Γ x q) := by
  refine CV.of rfl (cat_all rfl) (Nat.le_of_ble_eq_true rfl) ?_
  show V Γ 1 NF NF D_X0_mark (QI Γ x q) 0 [.ref (gB Γ + 3), vI v1, vI v2] [] NF (mk Γ x)
  unfold M_X0_mark at h
  refine V_iload_2 dX0_mark_0 ?_
  refine V_iconst dX0_mark_1 ?_
  refine V_icmp_ne 19 dX0_mark_2 (by decide) r2 (rgL rfl) ⟨fun c1 => ?_, fun c1 => ?_⟩
  · have h := h.1 c1
    refine V_aload_0 dX0_mark_19 ?_
    refine V_gR dX0_mark_20 fl_Bench_21 ly_3 (by decide) wr_3_1 ?_
    refine V_iconst dX0_mark_23 ?_
    refine V_iload_1 dX0_mark_24 ?_
    refine V_iload_2 dX0_mark_25 ?_
    refine V_cVI3 (My := D_X9_value) dX0_mark_26 ml_Bench_32 ce_X9_value (tid_f (x 3 1)).1 (by decide) cl_9 (tid_b0 (x 3 1)) (Nat.le_refl _) (Nat.le_refl _) (by decide) (sumL rfl) (w_X9_value hx (rgL rfl) r1 r2 h) (fun z2 hz2 h => ?_)
    exact V_ireturn dX0_mark_29 rfl ⟨rfl, _, rfl, hz2, h⟩
  · have h := h.2 c1
    refine V_aload_0 dX0_mark_5 ?_
    refine V_gR dX0_mark_6 fl_Bench_12 ly_3 (by decide) wr_3_0 ?_
    refine V_gI dX0_mark_9 fl_Bench_36 ly_4 (by decide) (clo_w2 (k := 4) rfl) ?_
    refine V_iload_1 dX0_mark_12 ?_
    refine V_ishr dX0_mark_13 ?_
    refine V_iconst dX0_mark_14 ?_
    refine V_iand dX0_mark_15 ?_
    refine V_goto 29 dX0_mark_16 (by decide) ?_
    exact V_ireturn dX0_mark_29 rfl ⟨rfl, _, rfl, (Rg.of _), h⟩
def M_X0_passes (x : XM) (v0 : Int) (v1 : Int) (v2 : Int) (q : Int → Prop) : Prop :=
  ((¬ v1 = 0 → ((¬ v1 = 1 → ((v2 < v0 → q 0) ∧ (¬ (v2 < v0) → q 1))) ∧ (v1 = 1 → ((v0 < v2 → q 0) ∧ (¬ (v0 < v2) → q 1))))) ∧ (v1 = 0 → ((¬ v0 = v2 → q 0) ∧ (v0 = v2 → q 1))))
set_option maxRecDepth 100000 in
theorem w_X0_passes {Γ : GE} {x : XM} (hx : WX x) {v0 v1 v2 : Int} {q : Int → Prop} (r0 : Rg v0) (r1 : Rg v1) (r2 : Rg v2) (h : M_X0_passes x v0 v1 v2 q) : CV Γ 0 NF NF D_X0_passes [vI v0, vI v1, vI v2] (mk Γ x) (QI Γ x q) := by
  refine CV.of rfl (cat_all rfl) (Nat.le_of_ble_eq_true rfl) ?_
  show V Γ 0 NF NF D_X0_passes (QI Γ x q) 0 [vI v0, vI v1, vI v2] [] NF (mk Γ x)
  unfold M_X0_passes at h
  refine V_iload_1 dX0_passes_0 ?_
  refine V_if_ne 15 dX0_passes_1 (by decide) r1 ⟨fun c1 => ?_, fun c1 => ?_⟩
  · have h := h.1 c1
    refine V_iload_1 dX0_passes_15 ?_
    refine V_iconst dX0_passes_16 ?_
    refine V_icmp_ne 33 dX0_passes_17 (by decide) r1 (rgL rfl) ⟨fun c2 => ?_, fun c2 => ?_⟩
    · have h := h.1 c2
      refine V_iload_0 dX0_passes_33 ?_
      refine V_iload_2 dX0_passes_34 ?_
      refine V_icmp_gt 42 dX0_passes_35 (by decide) r0 r2 ⟨fun c3 => ?_, fun c3 => ?_⟩
      · have h := h.1 c3
        refine V_iconst dX0_passes_42 ?_
        exact V_zreturn dX0_passes_43 rfl (Or.inl rfl) ⟨rfl, _, rfl, (rgL rfl), h⟩
      · have h := h.2 c3
        refine V_iconst dX0_passes_38 ?_
        refine V_goto 43 dX0_passes_39 (by decide) ?_
        exact V_zreturn dX0_passes_43 rfl (Or.inr rfl) ⟨rfl, _, rfl, (rgL rfl), h⟩
    · have h := h.2 c2
      refine V_iload_0 dX0_passes_20 ?_
      refine V_iload_2 dX0_passes_21 ?_
      refine V_icmp_lt 29 dX0_passes_22 (by decide) r0 r2 ⟨fun c4 => ?_, fun c4 => ?_⟩
      · have h := h.1 c4
        refine V_iconst dX0_passes_29 ?_
        refine V_goto 43 dX0_passes_30 (by decide) ?_
        exact V_zreturn dX0_passes_43 rfl (Or.inl rfl) ⟨rfl, _, rfl, (rgL rfl), h⟩
      · have h := h.2 c4
        refine V_iconst dX0_passes_25 ?_
        refine V_goto 43 dX0_passes_26 (by decide) ?_
        exact V_zreturn dX0_passes_43 rfl (Or.inr rfl) ⟨rfl, _, rfl, (rgL rfl), h⟩
  · have h := h.2 c1
    refine V_iload_0 dX0_passes_4 ?_
    refine V_iload_2 dX0_passes_5 ?_
    refine V_icmp_ne 13 dX0_passes_6 (by decide) r0 r2 ⟨fun c5 => ?_, fun c5 => ?_⟩
    · have h := h.1 c5
      refine V_iconst dX0_passes_13 ?_
      exact V_zreturn dX0_passes_14 rfl (Or.inl rfl) ⟨rfl, _, rfl, (rgL rfl), h⟩
    · have h := h.2 c5
      refine V_iconst dX0_passes_9 ?_
      refine V_goto 14 dX0_passes_10 (by decide) ?_
      exact V_zreturn dX0_passes_14 rfl (Or.inr rfl) ⟨rfl, _, rfl, (rgL rfl), h⟩
def M_X0_firstRule_2 (q : Int → Prop) (x : XM) : Nat → Int → Int → Prop
  | 0, _, _ => False
  | n + 1, v1, v2 =>
  M_X0_count x 2  (fun z1 => ((z1 ≤ v2 → q (-1)) ∧ (¬ (z1 ≤ v2) → (0 ≤ v2 ∧ v2 < 6) ∧ M_X9_value (x 3 1) x 2 (x 6 (v2.toNat)) 0  (fun z4 => M_X0_mark x v1 z4  (fun z5 => M_X9_value (x 3 1) x 2 (x 6 (v2.toNat)) 1  (fun z6 => M_X9_value (x 3 1) x 2 (x 6 (v2.toNat)) 2  (fun z7 => M_X0_passes x z5 z6 z7  (fun z8 => ((z8 = 0 → (Rg (v2 + 1)) ∧ (M_X0_firstRule_2 q x n) v1 (v2 + 1)) ∧ (¬ z8 = 0 → q (x 6 (v2.toNat))))))))))))
def M_X0_firstRule (x : XM) (v1 : Int) (q : Int → Prop) : Prop :=
  ∃ m : Nat, M_X0_firstRule_2 q x m v1 0
set_option maxRecDepth 100000 in
theorem w_X0_firstRule_2 {Γ : GE} {q : Int → Prop} {x : XM} (hx : WX x) : ∀ (n : Nat) (v1 : Int) (v2 : Int) , Rg v1 → Rg v2 → M_X0_firstRule_2 q x n v1 v2 → V Γ 2 NF NF D_X0_firstRule (QI Γ x q) 2 [.ref (gB Γ + 3), vI v1, vI v2, uu, uu] [] NF (mk Γ x) := by
  intro n
  induction n with
  | zero =>
    intro v1 v2 r1 r2 h
    rw [M_X0_firstRule_2.eq_1] at h
    exact h.elim
  | succ n ih =>
    intro v1 v2 r1 r2 h
    rw [M_X0_firstRule_2.eq_2] at h
    refine V_iload_2 dX0_firstRule_2 ?_
    refine V_aload_0 dX0_firstRule_3 ?_
    refine V_iconst dX0_firstRule_4 ?_
    refine V_cVI1 (My := D_X0_count) dX0_firstRule_5 ml_Bench_29 ce_X0_count ly_3 (by decide) cl_0 (by decide) (Nat.le_refl _) (Nat.le_refl _) (by decide) (sumL rfl) (w_X0_count hx (rgL rfl) h) (fun z1 hz1 h => ?_)
    refine V_icmp_ge 74 dX0_firstRule_8 (by decide) r2 hz1 ⟨fun c2 => ?_, fun c2 => ?_⟩
    · have h := h.1 c2
      refine V_iconst dX0_firstRule_74 ?_
      exact V_ireturn dX0_firstRule_75 rfl ⟨rfl, _, rfl, (rgL rfl), h⟩
    · have h := h.2 c2
      refine V_aload_0 dX0_firstRule_11 ?_
      refine V_gR dX0_firstRule_12 fl_Bench_12 ly_3 (by decide) wr_3_0 ?_
      refine V_gR dX0_firstRule_15 fl_Bench_63 ly_4 (by decide) (r := 6) (clo_w1 (k := 4) rfl) ?_
      refine V_iload_2 dX0_firstRule_18 ?_
      obtain ⟨g3, h⟩ := h
      refine V_aI dX0_firstRule_19 ly_6 (by decide) (by decide) g3 ?_
      refine V_istore_3 dX0_firstRule_20 rfl rfl ?_
      refine V_aload_0 dX0_firstRule_21 ?_
      refine V_iload_1 dX0_firstRule_22 ?_
      refine V_aload_0 dX0_firstRule_23 ?_
      refine V_gR dX0_firstRule_24 fl_Bench_21 ly_3 (by decide) wr_3_1 ?_
      refine V_iconst dX0_firstRule_27 ?_
      refine V_iload_3 dX0_firstRule_28 ?_
      refine V_iconst dX0_firstRule_29 ?_
      refine V_cVI3 (My := D_X9_value) dX0_firstRule_30 ml_Bench_32 ce_X9_value (tid_f (x 3 1)).1 (by decide) cl_9 (tid_b0 (x 3 1)) (Nat.le_refl _) (Nat.le_refl _) (by decide) (sumL rfl) (w_X9_value hx (rgL rfl) (hx _ _) (rgL rfl) h) (fun z4 hz4 h => ?_)
      refine V_cVI2 (My := D_X0_mark) dX0_firstRule_33 ml_Bench_40 ce_X0_mark ly_3 (by decide) cl_0 (by decide) (Nat.le_refl _) (Nat.le_refl _) (by decide) (sumL rfl) (w_X0_mark hx r1 hz4 h) (fun z5 hz5 h => ?_)
      refine V_istore_4 dX0_firstRule_36 rfl rfl ?_
      refine V_iload_4 dX0_firstRule_38 ?_
      refine V_aload_0 dX0_firstRule_40 ?_
      refine V_gR dX0_firstRule_41 fl_Bench_21 ly_3 (by decide) wr_3_1 ?_
      refine V_iconst dX0_firstRule_44 ?_
      refine V_iload_3 dX0_firstRule_45 ?_
      refine V_iconst dX0_firstRule_46 ?_
      refine V_cVI3 (My := D_X9_value) dX0_firstRule_47 ml_Bench_32 ce_X9_value (tid_f (x 3 1)).1 (by decide) cl_9 (tid_b0 (x 3 1)) (Nat.le_refl _) (Nat.le_refl _) (by decide) (sumL rfl) (w_X9_value hx (rgL rfl) (hx _ _) (rgL rfl) h) (fun z6 hz6 h => ?_)
      refine V_aload_0 dX0_firstRule_50 ?_
      refine V_gR dX0_firstRule_51 fl_Bench_21 ly_3 (by decide) wr_3_1 ?_
      refine V_iconst dX0_firstRule_54 ?_
      refine V_iload_3 dX0_firstRule_55 ?_
      refine V_iconst dX0_firstRule_56 ?_
      refine V_cVI3 (My := D_X9_value) dX0_firstRule_57 ml_Bench_32 ce_X9_value (tid_f (x 3 1)).1 (by decide) cl_9 (tid_b0 (x 3 1)) (Nat.le_refl _) (Nat.le_refl _) (by decide) (sumL rfl) (w_X9_value hx (rgL rfl) (hx _ _) (rgL rfl) h) (fun z7 hz7 h => ?_)
      refine V_cSI3 (My := D_X0_passes) dX0_firstRule_60 ml_Bench_66 ce_X0_passes (Nat.le_refl _) (Nat.le_refl _) (by decide) (sumL rfl) (w_X0_passes hx hz5 hz6 hz7 h) (fun z8 hz8 h => ?_)
      refine V_if_eq 68 dX0_firstRule_63 (by decide) hz8 ⟨fun c9 => ?_, fun c9 => ?_⟩
      · have h := h.1 c9
        refine V_iinc_2 (a2 := uu) dX0_firstRule_68 rfl ?_
        refine V_goto 2 dX0_firstRule_71 (by decide) ?_
        obtain ⟨g10, h⟩ := h
        refine V_fg_3 ?_
        refine V_fg_4 ?_
        exact ih _ _ r1 g10 h
      · have h := h.2 c9
        refine V_iload_3 dX0_firstRule_66 ?_
        exact V_ireturn dX0_firstRule_67 rfl ⟨rfl, _, rfl, (hx _ _), h⟩
set_option maxRecDepth 100000 in
theorem w_X0_firstRule {Γ : GE} {x : XM} (hx : WX x) {v1 : Int} {q : Int → Prop} (r1 : Rg v1) (h : M_X0_firstRule x v1 q) : CV Γ 2 NF NF D_X0_firstRule [.ref (gB Γ + 3), vI v1] (mk Γ x) (QI Γ x q) := by
  refine CV.of rfl (cat_all rfl) (Nat.le_of_ble_eq_true rfl) ?_
  show V Γ 2 NF NF D_X0_firstRule (QI Γ x q) 0 [.ref (gB Γ + 3), vI v1, uu, uu, uu] [] NF (mk Γ x)
  unfold M_X0_firstRule at h
  refine V_iconst dX0_firstRule_0 ?_
  refine V_istore_2 dX0_firstRule_1 rfl rfl ?_
  obtain ⟨m9, h⟩ := h
  exact w_X0_firstRule_2 hx m9 _ _ r1 (rgL rfl) h
def M_X0_goal (x : XM) (v1 : Int) (q : Int → Prop) : Prop :=
  M_X0_firstRule x v1  (fun z1 => ((¬ z1 = (-1) → M_X9_value (x 3 1) x 2 z1 3  (fun z3 => q z3)) ∧ (z1 = (-1) → q (-1))))
set_option maxRecDepth 100000 in
theorem w_X0_goal {Γ : GE} {x : XM} (hx : WX x) {v1 : Int} {q : Int → Prop} (r1 : Rg v1) (h : M_X0_goal x v1 q) : CV Γ 3 NF NF D_X0_goal [.ref (gB Γ + 3), vI v1] (mk Γ x) (QI Γ x q) := by
  refine CV.of rfl (cat_all rfl) (Nat.le_of_ble_eq_true rfl) ?_
  show V Γ 3 NF NF D_X0_goal (QI Γ x q) 0 [.ref (gB Γ + 3), vI v1, uu] [] NF (mk Γ x)
  unfold M_X0_goal at h
  refine V_aload_0 dX0_goal_0 ?_
  refine V_iload_1 dX0_goal_1 ?_
  refine V_cVI1 (My := D_X0_firstRule) dX0_goal_2 ml_Bench_70 ce_X0_firstRule ly_3 (by decide) cl_0 (by decide) (Nat.le_refl _) (Nat.le_refl _) (by decide) (sumL rfl) (w_X0_firstRule hx r1 h) (fun z1 hz1 h => ?_)
  refine V_istore_2 dX0_goal_5 rfl rfl ?_
  refine V_iload_2 dX0_goal_6 ?_
  refine V_iconst dX0_goal_7 ?_
  refine V_icmp_ne 15 dX0_goal_8 (by decide) hz1 (rgL rfl) ⟨fun c2 => ?_, fun c2 => ?_⟩
  · have h := h.1 c2
    refine V_aload_0 dX0_goal_15 ?_
    refine V_gR dX0_goal_16 fl_Bench_21 ly_3 (by decide) wr_3_1 ?_
    refine V_iconst dX0_goal_19 ?_
    refine V_iload_2 dX0_goal_20 ?_
    refine V_iconst dX0_goal_21 ?_
    refine V_cVI3 (My := D_X9_value) dX0_goal_22 ml_Bench_32 ce_X9_value (tid_f (x 3 1)).1 (by decide) cl_9 (tid_b0 (x 3 1)) (Nat.le_refl _) (Nat.le_refl _) (by decide) (sumL rfl) (w_X9_value hx (rgL rfl) hz1 (rgL rfl) h) (fun z3 hz3 h => ?_)
    exact V_ireturn dX0_goal_25 rfl ⟨rfl, _, rfl, hz3, h⟩
  · have h := h.2 c2
    refine V_iconst dX0_goal_11 ?_
    refine V_goto 25 dX0_goal_12 (by decide) ?_
    exact V_ireturn dX0_goal_25 rfl ⟨rfl, _, rfl, (rgL rfl), h⟩
def M_X0_out_4 (q : Int → Prop) (x : XM) : Nat → Int → Int → Prop
  | 0, _, _ => False
  | n + 1, v1, v2 =>
  M_X0_count x 1  (fun z1 => ((z1 ≤ v2 → q v1) ∧ (¬ (z1 ≤ v2) → M_X0_goal x v2  (fun z3 => ((¬ z3 = (-1) → (Rg (v2 + 1)) ∧ (M_X0_out_4 q x n) v1 (v2 + 1)) ∧ (z3 = (-1) → (Rg (v2 + 1)) ∧ (M_X0_out_4 q x n) (jor v1 (jshl 1 v2)) (v2 + 1)))))))
def M_X0_out (x : XM) (q : Int → Prop) : Prop :=
  ∃ m : Nat, M_X0_out_4 q x m 0 0
set_option maxRecDepth 100000 in
theorem w_X0_out_4 {Γ : GE} {q : Int → Prop} {x : XM} (hx : WX x) : ∀ (n : Nat) (v1 : Int) (v2 : Int) , Rg v1 → Rg v2 → M_X0_out_4 q x n v1 v2 → V Γ 4 NF NF D_X0_out (QI Γ x q) 4 [.ref (gB Γ + 3), vI v1, vI v2] [] NF (mk Γ x) := by
  intro n
  induction n with
  | zero =>
    intro v1 v2 r1 r2 h
    rw [M_X0_out_4.eq_1] at h
    exact h.elim
  | succ n ih =>
    intro v1 v2 r1 r2 h
    rw [M_X0_out_4.eq_2] at h
    refine V_iload_2 dX0_out_4 ?_
    refine V_aload_0 dX0_out_5 ?_
    refine V_iconst dX0_out_6 ?_
    refine V_cVI1 (My := D_X0_count) dX0_out_7 ml_Bench_29 ce_X0_count ly_3 (by decide) cl_0 (by decide) (Nat.le_refl _) (Nat.le_refl _) (by decide) (sumL rfl) (w_X0_count hx (rgL rfl) h) (fun z1 hz1 h => ?_)
    refine V_icmp_ge 34 dX0_out_10 (by decide) r2 hz1 ⟨fun c2 => ?_, fun c2 => ?_⟩
    · have h := h.1 c2
      refine V_iload_1 dX0_out_34 ?_
      exact V_ireturn dX0_out_35 rfl ⟨rfl, _, rfl, r1, h⟩
    · have h := h.2 c2
      refine V_aload_0 dX0_out_13 ?_
      refine V_iload_2 dX0_out_14 ?_
      refine V_cVI1 (My := D_X0_goal) dX0_out_15 ml_Bench_73 ce_X0_goal ly_3 (by decide) cl_0 (by decide) (Nat.le_refl _) (Nat.le_refl _) (by decide) (sumL rfl) (w_X0_goal hx r2 h) (fun z3 hz3 h => ?_)
      refine V_iconst dX0_out_18 ?_
      refine V_icmp_ne 28 dX0_out_19 (by decide) hz3 (rgL rfl) ⟨fun c4 => ?_, fun c4 => ?_⟩
      · have h := h.1 c4
        refine V_iinc_2 (a2 := uu) dX0_out_28 rfl ?_
        refine V_goto 4 dX0_out_31 (by decide) ?_
        obtain ⟨g5, h⟩ := h
        exact ih _ _ r1 g5 h
      · have h := h.2 c4
        refine V_iload_1 dX0_out_22 ?_
        refine V_iconst dX0_out_23 ?_
        refine V_iload_2 dX0_out_24 ?_
        refine V_ishl dX0_out_25 ?_
        refine V_ior dX0_out_26 ?_
        refine V_istore_1 dX0_out_27 rfl rfl ?_
        refine V_iinc_2 (a2 := uu) dX0_out_28 rfl ?_
        refine V_goto 4 dX0_out_31 (by decide) ?_
        obtain ⟨g6, h⟩ := h
        exact ih _ _ (Rg.of _) g6 h
set_option maxRecDepth 100000 in
theorem w_X0_out {Γ : GE} {x : XM} (hx : WX x) {q : Int → Prop} (h : M_X0_out x q) : CV Γ 4 NF NF D_X0_out [.ref (gB Γ + 3)] (mk Γ x) (QI Γ x q) := by
  refine CV.of rfl (cat_all rfl) (Nat.le_of_ble_eq_true rfl) ?_
  show V Γ 4 NF NF D_X0_out (QI Γ x q) 0 [.ref (gB Γ + 3), uu, uu] [] NF (mk Γ x)
  unfold M_X0_out at h
  refine V_iconst dX0_out_0 ?_
  refine V_istore_1 dX0_out_1 rfl rfl ?_
  refine V_iconst dX0_out_2 ?_
  refine V_istore_2 dX0_out_3 rfl rfl ?_
  obtain ⟨m9, h⟩ := h
  exact w_X0_out_4 hx m9 _ _ (rgL rfl) (rgL rfl) h
def M_X0_heapOf (x : XM) (v1 : Int) (q : Int → Prop) : Prop :=
  (0 ≤ v1 ∧ v1 < 12) ∧ ((6 ≤ (x 5 (v1.toNat)) → q (-1)) ∧ (¬ (6 ≤ (x 5 (v1.toNat))) → (0 ≤ v1 ∧ v1 < 12) ∧ q (x 5 (v1.toNat))))
set_option maxRecDepth 100000 in
theorem w_X0_heapOf {Γ : GE} {x : XM} (hx : WX x) {v1 : Int} {q : Int → Prop} (r1 : Rg v1) (h : M_X0_heapOf x v1 q) : CV Γ 0 NF NF D_X0_heapOf [.ref (gB Γ + 3), vI v1] (mk Γ x) (QI Γ x q) := by
  refine CV.of rfl (cat_all rfl) (Nat.le_of_ble_eq_true rfl) ?_
  show V Γ 0 NF NF D_X0_heapOf (QI Γ x q) 0 [.ref (gB Γ + 3), vI v1] [] NF (mk Γ x)
  unfold M_X0_heapOf at h
  refine V_aload_0 dX0_heapOf_0 ?_
  refine V_gR dX0_heapOf_1 fl_Bench_12 ly_3 (by decide) wr_3_0 ?_
  refine V_gR dX0_heapOf_4 fl_Bench_49 ly_4 (by decide) (r := 5) (clo_w0 (k := 4) rfl) ?_
  refine V_iload_1 dX0_heapOf_7 ?_
  obtain ⟨g1, h⟩ := h
  refine V_aI dX0_heapOf_8 ly_5 (by decide) (by decide) g1 ?_
  refine V_bipush dX0_heapOf_9 (by decide) ?_
  refine V_icmp_ge 26 dX0_heapOf_11 (by decide) (hx _ _) (rgL rfl) ⟨fun c2 => ?_, fun c2 => ?_⟩
  · have h := h.1 c2
    refine V_iconst dX0_heapOf_26 ?_
    exact V_ireturn dX0_heapOf_27 rfl ⟨rfl, _, rfl, (rgL rfl), h⟩
  · have h := h.2 c2
    refine V_aload_0 dX0_heapOf_14 ?_
    refine V_gR dX0_heapOf_15 fl_Bench_12 ly_3 (by decide) wr_3_0 ?_
    refine V_gR dX0_heapOf_18 fl_Bench_49 ly_4 (by decide) (r := 5) (clo_w0 (k := 4) rfl) ?_
    refine V_iload_1 dX0_heapOf_21 ?_
    obtain ⟨g3, h⟩ := h
    refine V_aI dX0_heapOf_22 ly_5 (by decide) (by decide) g3 ?_
    refine V_goto 27 dX0_heapOf_23 (by decide) ?_
    exact V_ireturn dX0_heapOf_27 rfl ⟨rfl, _, rfl, (hx _ _), h⟩
def M_X0_inWrongHeap_4 (q : Int → Prop) (x : XM) : Nat → Int → Int → Prop
  | 0, _, _ => False
  | n + 1, v1, v2 =>
  M_X0_count x 1  (fun z1 => ((z1 ≤ v2 → q v1) ∧ (¬ (z1 ≤ v2) → M_X0_heapOf x v2  (fun z3 => ((z3 = (-1) → (Rg (v2 + 1)) ∧ (M_X0_inWrongHeap_4 q x n) v1 (v2 + 1)) ∧ (¬ z3 = (-1) → M_X0_heapOf x v2  (fun z6 => M_X0_goal x v2  (fun z7 => ((z6 = z7 → (Rg (v2 + 1)) ∧ (M_X0_inWrongHeap_4 q x n) v1 (v2 + 1)) ∧ (¬ z6 = z7 → (Rg (v2 + 1)) ∧ (M_X0_inWrongHeap_4 q x n) (jor v1 (jshl 1 v2)) (v2 + 1)))))))))))
def M_X0_inWrongHeap (x : XM) (q : Int → Prop) : Prop :=
  ∃ m : Nat, M_X0_inWrongHeap_4 q x m 0 0
set_option maxRecDepth 100000 in
theorem w_X0_inWrongHeap_4 {Γ : GE} {q : Int → Prop} {x : XM} (hx : WX x) : ∀ (n : Nat) (v1 : Int) (v2 : Int) , Rg v1 → Rg v2 → M_X0_inWrongHeap_4 q x n v1 v2 → V Γ 4 NF NF D_X0_inWrongHeap (QI Γ x q) 4 [.ref (gB Γ + 3), vI v1, vI v2] [] NF (mk Γ x) := by
  intro n
  induction n with
  | zero =>
    intro v1 v2 r1 r2 h
    rw [M_X0_inWrongHeap_4.eq_1] at h
    exact h.elim
  | succ n ih =>
    intro v1 v2 r1 r2 h
    rw [M_X0_inWrongHeap_4.eq_2] at h
    refine V_iload_2 dX0_inWrongHeap_4 ?_
    refine V_aload_0 dX0_inWrongHeap_5 ?_
    refine V_iconst dX0_inWrongHeap_6 ?_
    refine V_cVI1 (My := D_X0_count) dX0_inWrongHeap_7 ml_Bench_29 ce_X0_count ly_3 (by decide) cl_0 (by decide) (Nat.le_refl _) (Nat.le_refl _) (by decide) (sumL rfl) (w_X0_count hx (rgL rfl) h) (fun z1 hz1 h => ?_)
    refine V_icmp_ge 47 dX0_inWrongHeap_10 (by decide) r2 hz1 ⟨fun c2 => ?_, fun c2 => ?_⟩
    · have h := h.1 c2
      refine V_iload_1 dX0_inWrongHeap_47 ?_
      exact V_ireturn dX0_inWrongHeap_48 rfl ⟨rfl, _, rfl, r1, h⟩
    · have h := h.2 c2
      refine V_aload_0 dX0_inWrongHeap_13 ?_
      refine V_iload_2 dX0_inWrongHeap_14 ?_
      refine V_cVI1 (My := D_X0_heapOf) dX0_inWrongHeap_15 ml_Bench_83 ce_X0_heapOf ly_3 (by decide) cl_0 (by decide) (Nat.le_refl _) (Nat.le_refl _) (by decide) (sumL rfl) (w_X0_heapOf hx r2 h) (fun z3 hz3 h => ?_)
      refine V_iconst dX0_inWrongHeap_18 ?_
      refine V_icmp_eq 41 dX0_inWrongHeap_19 (by decide) hz3 (rgL rfl) ⟨fun c4 => ?_, fun c4 => ?_⟩
      · have h := h.1 c4
        refine V_iinc_2 (a2 := uu) dX0_inWrongHeap_41 rfl ?_
        refine V_goto 4 dX0_inWrongHeap_44 (by decide) ?_
        obtain ⟨g5, h⟩ := h
        exact ih _ _ r1 g5 h
      · have h := h.2 c4
        refine V_aload_0 dX0_inWrongHeap_22 ?_
        refine V_iload_2 dX0_inWrongHeap_23 ?_
        refine V_cVI1 (My := D_X0_heapOf) dX0_inWrongHeap_24 ml_Bench_83 ce_X0_heapOf ly_3 (by decide) cl_0 (by decide) (Nat.le_refl _) (Nat.le_refl _) (by decide) (sumL rfl) (w_X0_heapOf hx r2 h) (fun z6 hz6 h => ?_)
        refine V_aload_0 dX0_inWrongHeap_27 ?_
        refine V_iload_2 dX0_inWrongHeap_28 ?_
        refine V_cVI1 (My := D_X0_goal) dX0_inWrongHeap_29 ml_Bench_73 ce_X0_goal ly_3 (by decide) cl_0 (by decide) (Nat.le_refl _) (Nat.le_refl _) (by decide) (sumL rfl) (w_X0_goal hx r2 h) (fun z7 hz7 h => ?_)
        refine V_icmp_eq 41 dX0_inWrongHeap_32 (by decide) hz6 hz7 ⟨fun c8 => ?_, fun c8 => ?_⟩
        · have h := h.1 c8
          refine V_iinc_2 (a2 := uu) dX0_inWrongHeap_41 rfl ?_
          refine V_goto 4 dX0_inWrongHeap_44 (by decide) ?_
          obtain ⟨g9, h⟩ := h
          exact ih _ _ r1 g9 h
        · have h := h.2 c8
          refine V_iload_1 dX0_inWrongHeap_35 ?_
          refine V_iconst dX0_inWrongHeap_36 ?_
          refine V_iload_2 dX0_inWrongHeap_37 ?_
          refine V_ishl dX0_inWrongHeap_38 ?_
          refine V_ior dX0_inWrongHeap_39 ?_
          refine V_istore_1 dX0_inWrongHeap_40 rfl rfl ?_
          refine V_iinc_2 (a2 := uu) dX0_inWrongHeap_41 rfl ?_
          refine V_goto 4 dX0_inWrongHeap_44 (by decide) ?_
          obtain ⟨g10, h⟩ := h
          exact ih _ _ (Rg.of _) g10 h
set_option maxRecDepth 100000 in
theorem w_X0_inWrongHeap {Γ : GE} {x : XM} (hx : WX x) {q : Int → Prop} (h : M_X0_inWrongHeap x q) : CV Γ 4 NF NF D_X0_inWrongHeap [.ref (gB Γ + 3)] (mk Γ x) (QI Γ x q) := by
  refine CV.of rfl (cat_all rfl) (Nat.le_of_ble_eq_true rfl) ?_
  show V Γ 4 NF NF D_X0_inWrongHeap (QI Γ x q) 0 [.ref (gB Γ + 3), uu, uu] [] NF (mk Γ x)
  unfold M_X0_inWrongHeap at h
  refine V_iconst dX0_inWrongHeap_0 ?_
  refine V_istore_1 dX0_inWrongHeap_1 rfl rfl ?_
  refine V_iconst dX0_inWrongHeap_2 ?_
  refine V_istore_2 dX0_inWrongHeap_3 rfl rfl ?_
  obtain ⟨m9, h⟩ := h
  exact w_X0_inWrongHeap_4 hx m9 _ _ (rgL rfl) (rgL rfl) h
def M_X0_idle_12 (q : Int → Prop) (x : XM) : Nat → Int → Int → Prop
  | 0, _, _ => False
  | n + 1, v1, v2 =>
  M_X0_count x 1  (fun z2 => ((z2 ≤ v2 → q v1) ∧ (¬ (z2 ≤ v2) → M_X0_firstRule x v2  (fun z4 => ((z4 = (-1) → (Rg (v2 + 1)) ∧ (M_X0_idle_12 q x n) v1 (v2 + 1)) ∧ (¬ z4 = (-1) → (Rg (v2 + 1)) ∧ (M_X0_idle_12 q x n) (jand v1 (jxor (jshl 1 z4) (-1))) (v2 + 1)))))))
def M_X0_idle (x : XM) (q : Int → Prop) : Prop :=
  M_X0_count x 2  (fun z1 => (Rg ((jshl 1 z1) - 1)) ∧ ∃ m : Nat, M_X0_idle_12 q x m ((jshl 1 z1) - 1) 0)
set_option maxRecDepth 100000 in
theorem w_X0_idle_12 {Γ : GE} {q : Int → Prop} {x : XM} (hx : WX x) : ∀ (n : Nat) (v1 : Int) (v2 : Int) , Rg v1 → Rg v2 → M_X0_idle_12 q x n v1 v2 → V Γ 3 NF NF D_X0_idle (QI Γ x q) 12 [.ref (gB Γ + 3), vI v1, vI v2, uu] [] NF (mk Γ x) := by
  intro n
  induction n with
  | zero =>
    intro v1 v2 r1 r2 h
    rw [M_X0_idle_12.eq_1] at h
    exact h.elim
  | succ n ih =>
    intro v1 v2 r1 r2 h
    rw [M_X0_idle_12.eq_2] at h
    refine V_iload_2 dX0_idle_12 ?_
    refine V_aload_0 dX0_idle_13 ?_
    refine V_iconst dX0_idle_14 ?_
    refine V_cVI1 (My := D_X0_count) dX0_idle_15 ml_Bench_29 ce_X0_count ly_3 (by decide) cl_0 (by decide) (Nat.le_refl _) (Nat.le_refl _) (by decide) (sumL rfl) (w_X0_count hx (rgL rfl) h) (fun z2 hz2 h => ?_)
    refine V_icmp_ge 46 dX0_idle_18 (by decide) r2 hz2 ⟨fun c3 => ?_, fun c3 => ?_⟩
    · have h := h.1 c3
      refine V_iload_1 dX0_idle_46 ?_
      exact V_ireturn dX0_idle_47 rfl ⟨rfl, _, rfl, r1, h⟩
    · have h := h.2 c3
      refine V_aload_0 dX0_idle_21 ?_
      refine V_iload_2 dX0_idle_22 ?_
      refine V_cVI1 (My := D_X0_firstRule) dX0_idle_23 ml_Bench_70 ce_X0_firstRule ly_3 (by decide) cl_0 (by decide) (Nat.le_refl _) (Nat.le_refl _) (by decide) (sumL rfl) (w_X0_firstRule hx r2 h) (fun z4 hz4 h => ?_)
      refine V_istore_3 dX0_idle_26 rfl rfl ?_
      refine V_iload_3 dX0_idle_27 ?_
      refine V_iconst dX0_idle_28 ?_
      refine V_icmp_eq 40 dX0_idle_29 (by decide) hz4 (rgL rfl) ⟨fun c5 => ?_, fun c5 => ?_⟩
      · have h := h.1 c5
        refine V_iinc_2 (a2 := uu) dX0_idle_40 rfl ?_
        refine V_goto 12 dX0_idle_43 (by decide) ?_
        obtain ⟨g6, h⟩ := h
        refine V_fg_3 ?_
        exact ih _ _ r1 g6 h
      · have h := h.2 c5
        refine V_iload_1 dX0_idle_32 ?_
        refine V_iconst dX0_idle_33 ?_
        refine V_iload_3 dX0_idle_34 ?_
        refine V_ishl dX0_idle_35 ?_
        refine V_iconst dX0_idle_36 ?_
        refine V_ixor dX0_idle_37 ?_
        refine V_iand dX0_idle_38 ?_
        refine V_istore_1 dX0_idle_39 rfl rfl ?_
        refine V_iinc_2 (a2 := uu) dX0_idle_40 rfl ?_
        refine V_goto 12 dX0_idle_43 (by decide) ?_
        obtain ⟨g7, h⟩ := h
        refine V_fg_3 ?_
        exact ih _ _ (Rg.of _) g7 h
set_option maxRecDepth 100000 in
theorem w_X0_idle {Γ : GE} {x : XM} (hx : WX x) {q : Int → Prop} (h : M_X0_idle x q) : CV Γ 3 NF NF D_X0_idle [.ref (gB Γ + 3)] (mk Γ x) (QI Γ x q) := by
  refine CV.of rfl (cat_all rfl) (Nat.le_of_ble_eq_true rfl) ?_
  show V Γ 3 NF NF D_X0_idle (QI Γ x q) 0 [.ref (gB Γ + 3), uu, uu, uu] [] NF (mk Γ x)
  unfold M_X0_idle at h
  refine V_iconst dX0_idle_0 ?_
  refine V_aload_0 dX0_idle_1 ?_
  refine V_iconst dX0_idle_2 ?_
  refine V_cVI1 (My := D_X0_count) dX0_idle_3 ml_Bench_29 ce_X0_count ly_3 (by decide) cl_0 (by decide) (Nat.le_refl _) (Nat.le_refl _) (by decide) (sumL rfl) (w_X0_count hx (rgL rfl) h) (fun z1 hz1 h => ?_)
  refine V_ishl dX0_idle_6 ?_
  refine V_iconst dX0_idle_7 ?_
  refine V_isub dX0_idle_8 ?_
  refine V_istore_1 dX0_idle_9 rfl rfl ?_
  refine V_iconst dX0_idle_10 ?_
  refine V_istore_2 dX0_idle_11 rfl rfl ?_
  obtain ⟨g8, h⟩ := h
  obtain ⟨m9, h⟩ := h
  exact w_X0_idle_12 hx m9 _ _ g8 (rgL rfl) h
