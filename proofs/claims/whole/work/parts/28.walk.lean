def M_X10_write_27 (q : Int → XM → Prop) (x : XM) (v1 : Int) (v2 : Int) : Prop :=
  (((x 60 2) < 15 → M_X1_add x v1 v2  (fun x5 => q (x5 60 2) x5)) ∧ (¬ ((x 60 2) < 15) → q (-1000000004) x))
def M_X10_write (x : XM) (v1 : Int) (v2 : Int) (q : Int → XM → Prop) : Prop :=
  M_X10_isThere x 1 v1  (fun z1 => ((¬ z1 = 0 → ((v2 = (-1) → M_X10_write_27 q x v1 v2) ∧ (¬ v2 = (-1) → M_X10_isHeap x v2  (fun z6 => ((¬ z6 = 0 → M_X10_write_27 q x v1 v2) ∧ (z6 = 0 → q (-1000000002) x)))))) ∧ (z1 = 0 → q (-1000000001) x)))
set_option maxRecDepth 100000 in
theorem w_X10_write_27 {Γ : GE} {q : Int → XM → Prop} : ∀ (x : XM) (v1 : Int) (v2 : Int) , WX x → Rg v1 → Rg v2 → M_X10_write_27 q x v1 v2 → V Γ 2 NF NF D_X10_write (QE Γ q) 27 [.ref (gB Γ + 0), vI v1, vI v2] [] NF (mk Γ x) := by
  intro x v1 v2 hx r1 r2 h
  unfold M_X10_write_27 at h
  refine V_aload_0 dX10_write_27 ?_
  refine V_gR dX10_write_28 fl_T_33 ly_0 (by decide) wr_0_3 ?_
  refine V_gI dX10_write_31 fl_T_145 ly_60 (by decide) wn_60_2 ?_
  refine V_bipush dX10_write_34 (by decide) ?_
  refine V_icmp_lt 42 dX10_write_36 (by decide) (hx _ _) (rgL rfl) ⟨fun c4 => ?_, fun c4 => ?_⟩
  · have h := h.1 c4
    refine V_aload_0 dX10_write_42 ?_
    refine V_gR dX10_write_43 fl_T_33 ly_0 (by decide) wr_0_3 ?_
    refine V_iload_1 dX10_write_46 ?_
    refine V_iload_2 dX10_write_47 ?_
    refine V_cVU2 (My := D_X1_add) dX10_write_48 ml_T_264 ce_X1_add ly_60 (by decide) cl_1 (by decide) (Nat.le_refl _) (Nat.le_refl _) (by decide) (sumL rfl) (w_X1_add hx r1 r2 h) (fun x5 hx5 h => ?_)
    refine V_aload_0 dX10_write_51 ?_
    refine V_gR dX10_write_52 fl_T_33 ly_0 (by decide) wr_0_3 ?_
    refine V_gI dX10_write_55 fl_T_145 ly_60 (by decide) wn_60_2 ?_
    exact V_ireturn dX10_write_58 rfl ⟨_, _, rfl, hx5, rfl, (hx5 _ _), h⟩
  · have h := h.2 c4
    refine V_ldc dX10_write_39 kc_T_82 ?_
    exact V_ireturn dX10_write_41 rfl ⟨_, _, rfl, hx, rfl, (rgL rfl), h⟩
set_option maxRecDepth 100000 in
theorem w_X10_write {Γ : GE} {x : XM} (hx : WX x) {v1 v2 : Int} {q : Int → XM → Prop} (r1 : Rg v1) (r2 : Rg v2) (h : M_X10_write x v1 v2 q) : CV Γ 2 NF NF D_X10_write [.ref (gB Γ + 0), vI v1, vI v2] (mk Γ x) (QE Γ q) := by
  refine CV.of rfl (cat_all rfl) (Nat.le_of_ble_eq_true rfl) ?_
  show V Γ 2 NF NF D_X10_write (QE Γ q) 0 [.ref (gB Γ + 0), vI v1, vI v2] [] NF (mk Γ x)
  unfold M_X10_write at h
  refine V_aload_0 dX10_write_0 ?_
  refine V_iconst dX10_write_1 ?_
  refine V_iload_1 dX10_write_2 ?_
  refine V_cVI2 (My := D_X10_isThere) dX10_write_3 ml_T_149 ce_X10_isThere ly_0 (by decide) cl_10 (by decide) (Nat.le_refl _) (Nat.le_refl _) (by decide) (sumL rfl) (w_X10_isThere hx (rgL rfl) r1 h) (fun z1 hz1 h => ?_)
  refine V_if_ne 12 dX10_write_6 (by decide) hz1 ⟨fun c2 => ?_, fun c2 => ?_⟩
  · have h := h.1 c2
    refine V_iload_2 dX10_write_12 ?_
    refine V_iconst dX10_write_13 ?_
    refine V_icmp_eq 27 dX10_write_14 (by decide) r2 (rgL rfl) ⟨fun c3 => ?_, fun c3 => ?_⟩
    · have h := h.1 c3
      exact w_X10_write_27 _ _ _ hx r1 r2 h
    · have h := h.2 c3
      refine V_iload_2 dX10_write_17 ?_
      refine V_cSI1 (My := D_X10_isHeap) dX10_write_18 ml_T_187 ce_X10_isHeap (Nat.le_refl _) (Nat.le_refl _) (by decide) (sumL rfl) (w_X10_isHeap hx r2 h) (fun z6 hz6 h => ?_)
      refine V_if_ne 27 dX10_write_21 (by decide) hz6 ⟨fun c7 => ?_, fun c7 => ?_⟩
      · have h := h.1 c7
        exact w_X10_write_27 _ _ _ hx r1 r2 h
      · have h := h.2 c7
        refine V_ldc dX10_write_24 kc_T_78 ?_
        exact V_ireturn dX10_write_26 rfl ⟨_, _, rfl, hx, rfl, (rgL rfl), h⟩
  · have h := h.2 c2
    refine V_ldc dX10_write_9 kc_T_153 ?_
    exact V_ireturn dX10_write_11 rfl ⟨_, _, rfl, hx, rfl, (rgL rfl), h⟩
def M_X11_write (x : XM) (v1 : Int) (v2 : Int) (q : Int → XM → Prop) : Prop :=
  M_X11_isButton x v1  (fun z1 => ((¬ z1 = 0 → M_X11_in x v2 (-1) 5  (fun z3 => ((¬ z3 = 0 → ((¬ (x 83 38) = 15 → (0 ≤ (x 83 38) ∧ (x 83 38) < 15) ∧ (∀ x7 : XM, x7 = uX x 101 (((x 83 38)).toNat) v1 → (0 ≤ (x7 83 38) ∧ (x7 83 38) < 15) ∧ (∀ x9 : XM, x9 = uX x7 102 (((x7 83 38)).toNat) v2 → (Rg ((x9 83 38) + 1)) ∧ (∀ x11 : XM, x11 = uX x9 83 38 ((x9 83 38) + 1) → q (x11 83 38) x11)))) ∧ ((x 83 38) = 15 → q (-1000000004) x))) ∧ (z3 = 0 → q (-1000000002) x)))) ∧ (z1 = 0 → q (-1000000001) x)))
set_option maxRecDepth 100000 in
theorem w_X11_write {Γ : GE} {x : XM} (hx : WX x) {v1 v2 : Int} {q : Int → XM → Prop} (r1 : Rg v1) (r2 : Rg v2) (h : M_X11_write x v1 v2 q) : CV Γ 2 NF NF D_X11_write [.ref (gB Γ + 83), vI v1, vI v2] (mk Γ x) (QE Γ q) := by
  refine CV.of rfl (cat_all rfl) (Nat.le_of_ble_eq_true rfl) ?_
  show V Γ 2 NF NF D_X11_write (QE Γ q) 0 [.ref (gB Γ + 83), vI v1, vI v2] [] NF (mk Γ x)
  unfold M_X11_write at h
  refine V_aload_0 dX11_write_0 ?_
  refine V_iload_1 dX11_write_1 ?_
  refine V_cVI1 (My := D_X11_isButton) dX11_write_2 ml_R_201 ce_X11_isButton ly_83 (by decide) cl_11 (by decide) (Nat.le_refl _) (Nat.le_refl _) (by decide) (sumL rfl) (w_X11_isButton hx r1 h) (fun z1 hz1 h => ?_)
  refine V_if_ne 11 dX11_write_5 (by decide) hz1 ⟨fun c2 => ?_, fun c2 => ?_⟩
  · have h := h.1 c2
    refine V_iload_2 dX11_write_11 ?_
    refine V_iconst dX11_write_12 ?_
    refine V_iconst dX11_write_13 ?_
    refine V_cSI3 (My := D_X11_in) dX11_write_14 ml_R_73 ce_X11_in (Nat.le_refl _) (Nat.le_refl _) (by decide) (sumL rfl) (w_X11_in hx r2 (rgL rfl) (rgL rfl) h) (fun z3 hz3 h => ?_)
    refine V_if_ne 23 dX11_write_17 (by decide) hz3 ⟨fun c4 => ?_, fun c4 => ?_⟩
    · have h := h.1 c4
      refine V_aload_0 dX11_write_23 ?_
      refine V_gI dX11_write_24 fl_R_160 ly_83 (by decide) wn_83_38 ?_
      refine V_bipush dX11_write_27 (by decide) ?_
      refine V_icmp_ne 35 dX11_write_29 (by decide) (hx _ _) (rgL rfl) ⟨fun c5 => ?_, fun c5 => ?_⟩
      · have h := h.1 c5
        refine V_aload_0 dX11_write_35 ?_
        refine V_gR dX11_write_36 fl_R_63 ly_83 (by decide) wr_83_36 ?_
        refine V_aload_0 dX11_write_39 ?_
        refine V_gI dX11_write_40 fl_R_160 ly_83 (by decide) wn_83_38 ?_
        refine V_iload_1 dX11_write_43 ?_
        obtain ⟨g6, h⟩ := h
        refine V_sIe dX11_write_44 ly_101 (by decide) (by decide) g6 (fun x7 ex7 => ?_)
        have h := h x7 ex7
        have hx7 := hx.upE r1 ex7
        refine V_aload_0 dX11_write_45 ?_
        refine V_gR dX11_write_46 fl_R_66 ly_83 (by decide) wr_83_37 ?_
        refine V_aload_0 dX11_write_49 ?_
        refine V_gI dX11_write_50 fl_R_160 ly_83 (by decide) wn_83_38 ?_
        refine V_iload_2 dX11_write_53 ?_
        obtain ⟨g8, h⟩ := h
        refine V_sIe dX11_write_54 ly_102 (by decide) (by decide) g8 (fun x9 ex9 => ?_)
        have h := h x9 ex9
        have hx9 := hx7.upE r2 ex9
        refine V_aload_0 dX11_write_55 ?_
        refine V_dup dX11_write_56 rfl ?_
        refine V_gI dX11_write_57 fl_R_160 ly_83 (by decide) wn_83_38 ?_
        refine V_iconst dX11_write_60 ?_
        refine V_iadd dX11_write_61 ?_
        obtain ⟨g10, h⟩ := h
        refine V_pIe dX11_write_62 fl_R_160 ly_83 (by decide) wn_83_38 (fun x11 ex11 => ?_)
        have h := h x11 ex11
        have hx11 := hx9.upE g10 ex11
        refine V_aload_0 dX11_write_65 ?_
        refine V_gI dX11_write_66 fl_R_160 ly_83 (by decide) wn_83_38 ?_
        exact V_ireturn dX11_write_69 rfl ⟨_, _, rfl, hx11, rfl, (hx11 _ _), h⟩
      · have h := h.2 c5
        refine V_ldc dX11_write_32 kc_R_81 ?_
        exact V_ireturn dX11_write_34 rfl ⟨_, _, rfl, hx, rfl, (rgL rfl), h⟩
    · have h := h.2 c4
      refine V_ldc dX11_write_20 kc_R_77 ?_
      exact V_ireturn dX11_write_22 rfl ⟨_, _, rfl, hx, rfl, (rgL rfl), h⟩
  · have h := h.2 c2
    refine V_ldc dX11_write_8 kc_R_205 ?_
    exact V_ireturn dX11_write_10 rfl ⟨_, _, rfl, hx, rfl, (rgL rfl), h⟩
def M_X10_tear (x : XM) (q : Int → XM → Prop) : Prop :=
  M_X1_clear x  (fun x1 => q (x 60 2) x1)
set_option maxRecDepth 100000 in
theorem w_X10_tear {Γ : GE} {x : XM} (hx : WX x) {q : Int → XM → Prop} (h : M_X10_tear x q) : CV Γ 1 NF NF D_X10_tear [.ref (gB Γ + 0)] (mk Γ x) (QE Γ q) := by
  refine CV.of rfl (cat_all rfl) (Nat.le_of_ble_eq_true rfl) ?_
  show V Γ 1 NF NF D_X10_tear (QE Γ q) 0 [.ref (gB Γ + 0), uu] [] NF (mk Γ x)
  unfold M_X10_tear at h
  refine V_aload_0 dX10_tear_0 ?_
  refine V_gR dX10_tear_1 fl_T_33 ly_0 (by decide) wr_0_3 ?_
  refine V_gI dX10_tear_4 fl_T_145 ly_60 (by decide) wn_60_2 ?_
  refine V_istore_1 dX10_tear_7 rfl rfl ?_
  refine V_aload_0 dX10_tear_8 ?_
  refine V_gR dX10_tear_9 fl_T_33 ly_0 (by decide) wr_0_3 ?_
  refine V_cVU0 (My := D_X1_clear) dX10_tear_12 ml_T_110 ce_X1_clear ly_60 (by decide) cl_1 (by decide) (Nat.le_refl _) (Nat.le_refl _) (by decide) (sumL rfl) (w_X1_clear hx h) (fun x1 hx1 h => ?_)
  refine V_iload_1 dX10_tear_15 ?_
  exact V_ireturn dX10_tear_16 rfl ⟨_, _, rfl, hx1, rfl, (hx _ _), h⟩
def M_X11_tear (x : XM) (q : Int → XM → Prop) : Prop :=
  ∀ x1 : XM, x1 = uX x 83 38 0 → q (x 83 38) x1
set_option maxRecDepth 100000 in
theorem w_X11_tear {Γ : GE} {x : XM} (hx : WX x) {q : Int → XM → Prop} (h : M_X11_tear x q) : CV Γ 0 NF NF D_X11_tear [.ref (gB Γ + 83)] (mk Γ x) (QE Γ q) := by
  refine CV.of rfl (cat_all rfl) (Nat.le_of_ble_eq_true rfl) ?_
  show V Γ 0 NF NF D_X11_tear (QE Γ q) 0 [.ref (gB Γ + 83), uu] [] NF (mk Γ x)
  unfold M_X11_tear at h
  refine V_aload_0 dX11_tear_0 ?_
  refine V_gI dX11_tear_1 fl_R_160 ly_83 (by decide) wn_83_38 ?_
  refine V_istore_1 dX11_tear_4 rfl rfl ?_
  refine V_aload_0 dX11_tear_5 ?_
  refine V_iconst dX11_tear_6 ?_
  refine V_pIe dX11_tear_7 fl_R_160 ly_83 (by decide) wn_83_38 (fun x1 ex1 => ?_)
  have h := h x1 ex1
  have hx1 := hx.upE (rgL rfl) ex1
  refine V_iload_1 dX11_tear_10 ?_
  exact V_ireturn dX11_tear_11 rfl ⟨_, _, rfl, hx1, rfl, (hx _ _), h⟩
def M_X1_firstWrong_2 (q : Int → Prop) (x : XM) : Nat → Int → Prop
  | 0, _ => False
  | n + 1, v2 =>
  (((x 60 2) ≤ v2 → q (-1)) ∧ (¬ ((x 60 2) ≤ v2) → (0 ≤ v2 ∧ v2 < 15) ∧ M_X0_heapOf x (x 61 (v2.toNat))  (fun z3 => (0 ≤ v2 ∧ v2 < 15) ∧ ((z3 = (x 62 (v2.toNat)) → (Rg (v2 + 1)) ∧ (M_X1_firstWrong_2 q x n) (v2 + 1)) ∧ (¬ z3 = (x 62 (v2.toNat)) → q v2)))))
def M_X1_firstWrong (x : XM) (q : Int → Prop) : Prop :=
  ∃ m : Nat, M_X1_firstWrong_2 q x m 0
set_option maxRecDepth 100000 in
theorem w_X1_firstWrong_2 {Γ : GE} {q : Int → Prop} {x : XM} (hx : WX x) : ∀ (n : Nat) (v2 : Int) , Rg v2 → M_X1_firstWrong_2 q x n v2 → V Γ 1 NF NF D_X1_firstWrong (QI Γ x q) 2 [.ref (gB Γ + 60), .ref (gB Γ + 3), vI v2] [] NF (mk Γ x) := by
  intro n
  induction n with
  | zero =>
    intro v2 r2 h
    rw [M_X1_firstWrong_2.eq_1] at h
    exact h.elim
  | succ n ih =>
    intro v2 r2 h
    rw [M_X1_firstWrong_2.eq_2] at h
    refine V_iload_2 dX1_firstWrong_2 ?_
    refine V_aload_0 dX1_firstWrong_3 ?_
    refine V_gI dX1_firstWrong_4 fl_Book_18 ly_60 (by decide) wn_60_2 ?_
    refine V_icmp_ge 37 dX1_firstWrong_7 (by decide) r2 (hx _ _) ⟨fun c1 => ?_, fun c1 => ?_⟩
    · have h := h.1 c1
      refine V_iconst dX1_firstWrong_37 ?_
      exact V_ireturn dX1_firstWrong_38 rfl ⟨rfl, _, rfl, (rgL rfl), h⟩
    · have h := h.2 c1
      refine V_aload_1 dX1_firstWrong_10 ?_
      refine V_aload_0 dX1_firstWrong_11 ?_
      refine V_gR dX1_firstWrong_12 fl_Book_9 ly_60 (by decide) wr_60_0 ?_
      refine V_iload_2 dX1_firstWrong_15 ?_
      obtain ⟨g2, h⟩ := h
      refine V_aI dX1_firstWrong_16 ly_61 (by decide) (by decide) g2 ?_
      refine V_cVI1 (My := D_X0_heapOf) dX1_firstWrong_17 ml_Book_22 ce_X0_heapOf ly_3 (by decide) cl_0 (by decide) (Nat.le_refl _) (Nat.le_refl _) (by decide) (sumL rfl) (w_X0_heapOf hx (hx _ _) h) (fun z3 hz3 h => ?_)
      refine V_aload_0 dX1_firstWrong_20 ?_
      refine V_gR dX1_firstWrong_21 fl_Book_15 ly_60 (by decide) wr_60_1 ?_
      refine V_iload_2 dX1_firstWrong_24 ?_
      obtain ⟨g4, h⟩ := h
      refine V_aI dX1_firstWrong_25 ly_62 (by decide) (by decide) g4 ?_
      refine V_icmp_eq 31 dX1_firstWrong_26 (by decide) hz3 (hx _ _) ⟨fun c5 => ?_, fun c5 => ?_⟩
      · have h := h.1 c5
        refine V_iinc_2 (a2 := uu) dX1_firstWrong_31 rfl ?_
        refine V_goto 2 dX1_firstWrong_34 (by decide) ?_
        obtain ⟨g6, h⟩ := h
        exact ih _ g6 h
      · have h := h.2 c5
        refine V_iload_2 dX1_firstWrong_29 ?_
        exact V_ireturn dX1_firstWrong_30 rfl ⟨rfl, _, rfl, r2, h⟩
set_option maxRecDepth 100000 in
theorem w_X1_firstWrong {Γ : GE} {x : XM} (hx : WX x) {q : Int → Prop} (h : M_X1_firstWrong x q) : CV Γ 1 NF NF D_X1_firstWrong [.ref (gB Γ + 60), .ref (gB Γ + 3)] (mk Γ x) (QI Γ x q) := by
  refine CV.of rfl (cat_all rfl) (Nat.le_of_ble_eq_true rfl) ?_
  show V Γ 1 NF NF D_X1_firstWrong (QI Γ x q) 0 [.ref (gB Γ + 60), .ref (gB Γ + 3), uu] [] NF (mk Γ x)
  unfold M_X1_firstWrong at h
  refine V_iconst dX1_firstWrong_0 ?_
  refine V_istore_2 dX1_firstWrong_1 rfl rfl ?_
  obtain ⟨m9, h⟩ := h
  exact w_X1_firstWrong_2 hx m9 _ (rgL rfl) h
def M_X10_judge (x : XM) (q : Int → Prop) : Prop :=
  M_X1_firstWrong x  (fun z1 => q z1)
set_option maxRecDepth 100000 in
theorem w_X10_judge {Γ : GE} {x : XM} (hx : WX x) {q : Int → Prop} (h : M_X10_judge x q) : CV Γ 2 NF NF D_X10_judge [.ref (gB Γ + 0)] (mk Γ x) (QI Γ x q) := by
  refine CV.of rfl (cat_all rfl) (Nat.le_of_ble_eq_true rfl) ?_
  show V Γ 2 NF NF D_X10_judge (QI Γ x q) 0 [.ref (gB Γ + 0)] [] NF (mk Γ x)
  unfold M_X10_judge at h
  refine V_aload_0 dX10_judge_0 ?_
  refine V_gR dX10_judge_1 fl_T_33 ly_0 (by decide) wr_0_3 ?_
  refine V_aload_0 dX10_judge_4 ?_
  refine V_gR dX10_judge_5 fl_T_19 ly_0 (by decide) wr_0_1 ?_
  refine V_cVI1 (My := D_X1_firstWrong) dX10_judge_8 ml_T_267 ce_X1_firstWrong ly_60 (by decide) cl_1 (by decide) (Nat.le_refl _) (Nat.le_refl _) (by decide) (sumL rfl) (w_X1_firstWrong hx h) (fun z1 hz1 h => ?_)
  exact V_ireturn dX10_judge_11 rfl ⟨rfl, _, rfl, hz1, h⟩
def M_X11_judge_2 (q : Int → Prop) (x : XM) : Nat → Int → Prop
  | 0, _ => False
  | n + 1, v1 =>
  (((x 83 38) ≤ v1 → q (-1)) ∧ (¬ ((x 83 38) ≤ v1) → (0 ≤ v1 ∧ v1 < 15) ∧ M_X11_heapOf x (x 101 (v1.toNat))  (fun z3 => (0 ≤ v1 ∧ v1 < 15) ∧ ((z3 = (x 102 (v1.toNat)) → (Rg (v1 + 1)) ∧ (M_X11_judge_2 q x n) (v1 + 1)) ∧ (¬ z3 = (x 102 (v1.toNat)) → q v1)))))
def M_X11_judge (x : XM) (q : Int → Prop) : Prop :=
  ∃ m : Nat, M_X11_judge_2 q x m 0
set_option maxRecDepth 100000 in
theorem w_X11_judge_2 {Γ : GE} {q : Int → Prop} {x : XM} (hx : WX x) : ∀ (n : Nat) (v1 : Int) , Rg v1 → M_X11_judge_2 q x n v1 → V Γ 2 NF NF D_X11_judge (QI Γ x q) 2 [.ref (gB Γ + 83), vI v1] [] NF (mk Γ x) := by
  intro n
  induction n with
  | zero =>
    intro v1 r1 h
    rw [M_X11_judge_2.eq_1] at h
    exact h.elim
  | succ n ih =>
    intro v1 r1 h
    rw [M_X11_judge_2.eq_2] at h
    refine V_iload_1 dX11_judge_2 ?_
    refine V_aload_0 dX11_judge_3 ?_
    refine V_gI dX11_judge_4 fl_R_160 ly_83 (by decide) wn_83_38 ?_
    refine V_icmp_ge 37 dX11_judge_7 (by decide) r1 (hx _ _) ⟨fun c1 => ?_, fun c1 => ?_⟩
    · have h := h.1 c1
      refine V_iconst dX11_judge_37 ?_
      exact V_ireturn dX11_judge_38 rfl ⟨rfl, _, rfl, (rgL rfl), h⟩
    · have h := h.2 c1
      refine V_aload_0 dX11_judge_10 ?_
      refine V_aload_0 dX11_judge_11 ?_
      refine V_gR dX11_judge_12 fl_R_63 ly_83 (by decide) wr_83_36 ?_
      refine V_iload_1 dX11_judge_15 ?_
      obtain ⟨g2, h⟩ := h
      refine V_aI dX11_judge_16 ly_101 (by decide) (by decide) g2 ?_
      refine V_cVI1 (My := D_X11_heapOf) dX11_judge_17 ml_R_189 ce_X11_heapOf ly_83 (by decide) cl_11 (by decide) (Nat.le_refl _) (Nat.le_refl _) (by decide) (sumL rfl) (w_X11_heapOf hx (hx _ _) h) (fun z3 hz3 h => ?_)
      refine V_aload_0 dX11_judge_20 ?_
      refine V_gR dX11_judge_21 fl_R_66 ly_83 (by decide) wr_83_37 ?_
      refine V_iload_1 dX11_judge_24 ?_
      obtain ⟨g4, h⟩ := h
      refine V_aI dX11_judge_25 ly_102 (by decide) (by decide) g4 ?_
      refine V_icmp_eq 31 dX11_judge_26 (by decide) hz3 (hx _ _) ⟨fun c5 => ?_, fun c5 => ?_⟩
      · have h := h.1 c5
        refine V_iinc_1 (a1 := uu) dX11_judge_31 rfl ?_
        refine V_goto 2 dX11_judge_34 (by decide) ?_
        obtain ⟨g6, h⟩ := h
        exact ih _ g6 h
      · have h := h.2 c5
        refine V_iload_1 dX11_judge_29 ?_
        exact V_ireturn dX11_judge_30 rfl ⟨rfl, _, rfl, r1, h⟩
set_option maxRecDepth 100000 in
theorem w_X11_judge {Γ : GE} {x : XM} (hx : WX x) {q : Int → Prop} (h : M_X11_judge x q) : CV Γ 2 NF NF D_X11_judge [.ref (gB Γ + 83)] (mk Γ x) (QI Γ x q) := by
  refine CV.of rfl (cat_all rfl) (Nat.le_of_ble_eq_true rfl) ?_
  show V Γ 2 NF NF D_X11_judge (QI Γ x q) 0 [.ref (gB Γ + 83), uu] [] NF (mk Γ x)
  unfold M_X11_judge at h
  refine V_iconst dX11_judge_0 ?_
  refine V_istore_1 dX11_judge_1 rfl rfl ?_
  obtain ⟨m9, h⟩ := h
  exact w_X11_judge_2 hx m9 _ (rgL rfl) h
def M_X10_seed (x : XM) (v1 : Int) (q : Int → XM → Prop) : Prop :=
  ((0 ≤ v1 → ∀ x2 : XM, x2 = uX x 63 0 v1 → q (x 63 0) x2) ∧ (¬ (0 ≤ v1) → q (-1000000002) x))
set_option maxRecDepth 100000 in
theorem w_X10_seed {Γ : GE} {x : XM} (hx : WX x) {v1 : Int} {q : Int → XM → Prop} (r1 : Rg v1) (h : M_X10_seed x v1 q) : CV Γ 0 NF NF D_X10_seed [.ref (gB Γ + 0), vI v1] (mk Γ x) (QE Γ q) := by
  refine CV.of rfl (cat_all rfl) (Nat.le_of_ble_eq_true rfl) ?_
  show V Γ 0 NF NF D_X10_seed (QE Γ q) 0 [.ref (gB Γ + 0), vI v1, uu] [] NF (mk Γ x)
  unfold M_X10_seed at h
  refine V_iload_1 dX10_seed_0 ?_
  refine V_if_ge 7 dX10_seed_1 (by decide) r1 ⟨fun c1 => ?_, fun c1 => ?_⟩
  · have h := h.1 c1
    refine V_aload_0 dX10_seed_7 ?_
    refine V_gR dX10_seed_8 fl_T_40 ly_0 (by decide) wr_0_4 ?_
    refine V_gI dX10_seed_11 fl_T_271 ly_63 (by decide) wn_63_0 ?_
    refine V_istore_2 dX10_seed_14 rfl rfl ?_
    refine V_aload_0 dX10_seed_15 ?_
    refine V_gR dX10_seed_16 fl_T_40 ly_0 (by decide) wr_0_4 ?_
    refine V_iload_1 dX10_seed_19 ?_
    refine V_pIe dX10_seed_20 fl_T_271 ly_63 (by decide) wn_63_0 (fun x2 ex2 => ?_)
    have h := h x2 ex2
    have hx2 := hx.upE r1 ex2
    refine V_iload_2 dX10_seed_23 ?_
    exact V_ireturn dX10_seed_24 rfl ⟨_, _, rfl, hx2, rfl, (hx _ _), h⟩
  · have h := h.2 c1
    refine V_ldc dX10_seed_4 kc_T_78 ?_
    exact V_ireturn dX10_seed_6 rfl ⟨_, _, rfl, hx, rfl, (rgL rfl), h⟩
def M_X11_seed (x : XM) (v1 : Int) (q : Int → XM → Prop) : Prop :=
  ((0 ≤ v1 → ∀ x2 : XM, x2 = uX x 83 31 v1 → q (x 83 31) x2) ∧ (¬ (0 ≤ v1) → q (-1000000002) x))
set_option maxRecDepth 100000 in
theorem w_X11_seed {Γ : GE} {x : XM} (hx : WX x) {v1 : Int} {q : Int → XM → Prop} (r1 : Rg v1) (h : M_X11_seed x v1 q) : CV Γ 0 NF NF D_X11_seed [.ref (gB Γ + 83), vI v1] (mk Γ x) (QE Γ q) := by
  refine CV.of rfl (cat_all rfl) (Nat.le_of_ble_eq_true rfl) ?_
  show V Γ 0 NF NF D_X11_seed (QE Γ q) 0 [.ref (gB Γ + 83), vI v1, uu] [] NF (mk Γ x)
  unfold M_X11_seed at h
  refine V_iload_1 dX11_seed_0 ?_
  refine V_if_ge 7 dX11_seed_1 (by decide) r1 ⟨fun c1 => ?_, fun c1 => ?_⟩
  · have h := h.1 c1
    refine V_aload_0 dX11_seed_7 ?_
    refine V_gI dX11_seed_8 fl_R_236 ly_83 (by decide) wn_83_31 ?_
    refine V_istore_2 dX11_seed_11 rfl rfl ?_
    refine V_aload_0 dX11_seed_12 ?_
    refine V_iload_1 dX11_seed_13 ?_
    refine V_pIe dX11_seed_14 fl_R_236 ly_83 (by decide) wn_83_31 (fun x2 ex2 => ?_)
    have h := h x2 ex2
    have hx2 := hx.upE r1 ex2
    refine V_iload_2 dX11_seed_17 ?_
    exact V_ireturn dX11_seed_18 rfl ⟨_, _, rfl, hx2, rfl, (hx _ _), h⟩
  · have h := h.2 c1
    refine V_ldc dX11_seed_4 kc_R_77 ?_
    exact V_ireturn dX11_seed_6 rfl ⟨_, _, rfl, hx, rfl, (rgL rfl), h⟩
def M_X10_keep (x : XM) (v1 : Int) (q : Int → XM → Prop) : Prop :=
  ((v1 < 0 → q (-1000000001) x) ∧ (¬ (v1 < 0) → ((v1 < 2 → (0 ≤ v1 ∧ v1 < 2) ∧ M_X2_copyFrom ((75 + 4 * v1.toNat) + 1) 4 x  (fun x4 => (0 ≤ v1 ∧ v1 < 2) ∧ (∀ x6 : XM, x6 = uX x4 (75 + 4 * v1.toNat) 1 (x4 63 0) → (0 ≤ v1 ∧ v1 < 2) ∧ (∀ x8 : XM, x8 = uX x6 (75 + 4 * v1.toNat) 2 1 → M_X7_clear x8  (fun x9 => q 1 x9))))) ∧ (¬ (v1 < 2) → q (-1000000001) x))))
set_option maxRecDepth 100000 in
theorem w_X10_keep {Γ : GE} {x : XM} (hx : WX x) {v1 : Int} {q : Int → XM → Prop} (r1 : Rg v1) (h : M_X10_keep x v1 q) : CV Γ 2 NF NF D_X10_keep [.ref (gB Γ + 0), vI v1] (mk Γ x) (QE Γ q) := by
  refine CV.of rfl (cat_all rfl) (Nat.le_of_ble_eq_true rfl) ?_
  show V Γ 2 NF NF D_X10_keep (QE Γ q) 0 [.ref (gB Γ + 0), vI v1] [] NF (mk Γ x)
  unfold M_X10_keep at h
  refine V_iload_1 dX10_keep_0 ?_
  refine V_if_lt 9 dX10_keep_1 (by decide) r1 ⟨fun c1 => ?_, fun c1 => ?_⟩
  · have h := h.1 c1
    refine V_ldc dX10_keep_9 kc_T_153 ?_
    exact V_ireturn dX10_keep_11 rfl ⟨_, _, rfl, hx, rfl, (rgL rfl), h⟩
  · have h := h.2 c1
    refine V_iload_1 dX10_keep_4 ?_
    refine V_iconst dX10_keep_5 ?_
    refine V_icmp_lt 12 dX10_keep_6 (by decide) r1 (rgL rfl) ⟨fun c2 => ?_, fun c2 => ?_⟩
    · have h := h.1 c2
      refine V_aload_0 dX10_keep_12 ?_
      refine V_gR dX10_keep_13 fl_T_46 ly_0 (by decide) wr_0_5 ?_
      refine V_iload_1 dX10_keep_16 ?_
      obtain ⟨g3, h⟩ := h
      refine V_aM dX10_keep_17 g3 ?_
      refine V_gR dX10_keep_18 fl_T_274 (img_f (imgs_k g3.1 g3.2)).1 (lt_lay (imgs_k g3.1 g3.2) (by decide)) (img_w0 (imgs_k g3.1 g3.2)) ?_
      refine V_aload_0 dX10_keep_21 ?_
      refine V_gR dX10_keep_22 fl_T_19 ly_0 (by decide) wr_0_1 ?_
      refine V_gR dX10_keep_25 fl_T_100 ly_3 (by decide) wr_3_0 ?_
      refine V_cVU1 (My := D_X2_copyFrom) dX10_keep_28 ml_T_275 ce_X2_copyFrom (clo_f (img_f (imgs_k g3.1 g3.2)).2).1 (by decide) cl_2 (lt_lay (img_f (imgs_k g3.1 g3.2)).2 (by decide)) (Nat.le_refl _) (Nat.le_refl _) (by decide) (sumL rfl) (w_X2_copyFrom (img_f (imgs_k g3.1 g3.2)).2 (show (lay 4).1 = 2 from rfl) hx h) (fun x4 hx4 h => ?_)
      refine V_aload_0 dX10_keep_31 ?_
      refine V_gR dX10_keep_32 fl_T_46 ly_0 (by decide) wr_0_5 ?_
      refine V_iload_1 dX10_keep_35 ?_
      obtain ⟨g5, h⟩ := h
      refine V_aM dX10_keep_36 g5 ?_
      refine V_aload_0 dX10_keep_37 ?_
      refine V_gR dX10_keep_38 fl_T_40 ly_0 (by decide) wr_0_4 ?_
      refine V_gI dX10_keep_41 fl_T_271 ly_63 (by decide) wn_63_0 ?_
      refine V_pIe dX10_keep_44 fl_T_278 (img_f (imgs_k g5.1 g5.2)).1 (lt_lay (imgs_k g5.1 g5.2) (by decide)) (img_w1 (imgs_k g5.1 g5.2)) (fun x6 ex6 => ?_)
      have h := h x6 ex6
      have hx6 := hx4.upE (hx4 _ _) ex6
      refine V_aload_0 dX10_keep_47 ?_
      refine V_gR dX10_keep_48 fl_T_46 ly_0 (by decide) wr_0_5 ?_
      refine V_iload_1 dX10_keep_51 ?_
      obtain ⟨g7, h⟩ := h
      refine V_aM dX10_keep_52 g7 ?_
      refine V_iconst dX10_keep_53 ?_
      refine V_pZe dX10_keep_54 fl_T_112 (img_f (imgs_k g7.1 g7.2)).1 (lt_lay (imgs_k g7.1 g7.2) (by decide)) (img_w2 (imgs_k g7.1 g7.2)) (Or.inr rfl) (fun x8 ex8 => ?_)
      have h := h x8 ex8
      have hx8 := hx6.upE (rgL rfl) ex8
      refine V_aload_0 dX10_keep_57 ?_
      refine V_gR dX10_keep_58 fl_T_26 ly_0 (by decide) wr_0_2 ?_
      refine V_cVU0 (My := D_X7_clear) dX10_keep_61 ml_T_111 ce_X7_clear ly_10 (by decide) cl_7 (by decide) (Nat.le_refl _) (Nat.le_refl _) (by decide) (sumL rfl) (w_X7_clear hx8 h) (fun x9 hx9 h => ?_)
      refine V_iconst dX10_keep_64 ?_
      exact V_ireturn dX10_keep_65 rfl ⟨_, _, rfl, hx9, rfl, (rgL rfl), h⟩
    · have h := h.2 c2
      refine V_ldc dX10_keep_9 kc_T_153 ?_
      exact V_ireturn dX10_keep_11 rfl ⟨_, _, rfl, hx, rfl, (rgL rfl), h⟩
def M_X11_keep_14 (q : Int → XM → Prop) : Nat → XM → Int → Int → Prop
  | 0, _, _, _ => False
  | n + 1, x, v1, v2 =>
  ((31 ≤ v2 → (0 ≤ v1 ∧ v1 < 2) ∧ (∀ x5 : XM, x5 = uX x 96 (v1.toNat) (x 83 31) → (0 ≤ v1 ∧ v1 < 2) ∧ (∀ x7 : XM, x7 = uX x5 97 (v1.toNat) 1 → ∀ x8 : XM, x8 = uX x7 83 27 0 → q 1 x8))) ∧ (¬ (31 ≤ v2) → (0 ≤ v2 ∧ v2 < 31) ∧ (0 ≤ ((31 * v1) + v2) ∧ ((31 * v1) + v2) < 62) ∧ (∀ x11 : XM, x11 = uX x 95 ((((31 * v1) + v2)).toNat) (x 93 (v2.toNat)) → (Rg (v2 + 1)) ∧ (M_X11_keep_14 q n) x11 v1 (v2 + 1))))
def M_X11_keep (x : XM) (v1 : Int) (q : Int → XM → Prop) : Prop :=
  M_X11_in x v1 0 1  (fun z1 => ((¬ z1 = 0 → ∃ m : Nat, M_X11_keep_14 q m x v1 0) ∧ (z1 = 0 → q (-1000000001) x)))
set_option maxRecDepth 100000 in
theorem w_X11_keep_14 {Γ : GE} {q : Int → XM → Prop} : ∀ (n : Nat) (x : XM) (v1 : Int) (v2 : Int) , WX x → Rg v1 → Rg v2 → M_X11_keep_14 q n x v1 v2 → V Γ 1 NF NF D_X11_keep (QE Γ q) 14 [.ref (gB Γ + 83), vI v1, vI v2] [] NF (mk Γ x) := by
  intro n
  induction n with
  | zero =>
    intro x v1 v2 hx r1 r2 h
    rw [M_X11_keep_14.eq_1] at h
    exact h.elim
  | succ n ih =>
    intro x v1 v2 hx r1 r2 h
    rw [M_X11_keep_14.eq_2] at h
    refine V_iload_2 dX11_keep_14 ?_
    refine V_bipush dX11_keep_15 (by decide) ?_
    refine V_icmp_ge 43 dX11_keep_17 (by decide) r2 (rgL rfl) ⟨fun c3 => ?_, fun c3 => ?_⟩
    · have h := h.1 c3
      refine V_aload_0 dX11_keep_43 ?_
      refine V_gR dX11_keep_44 fl_R_47 ly_83 (by decide) wr_83_29 ?_
      refine V_iload_1 dX11_keep_47 ?_
      refine V_aload_0 dX11_keep_48 ?_
      refine V_gI dX11_keep_49 fl_R_236 ly_83 (by decide) wn_83_31 ?_
      obtain ⟨g4, h⟩ := h
      refine V_sIe dX11_keep_52 ly_96 (by decide) (by decide) g4 (fun x5 ex5 => ?_)
      have h := h x5 ex5
      have hx5 := hx.upE (hx _ _) ex5
      refine V_aload_0 dX11_keep_53 ?_
      refine V_gR dX11_keep_54 fl_R_50 ly_83 (by decide) wr_83_30 ?_
      refine V_iload_1 dX11_keep_57 ?_
      refine V_iconst dX11_keep_58 ?_
      obtain ⟨g6, h⟩ := h
      refine V_sZe dX11_keep_59 ly_97 (by decide) (by decide) g6 (Or.inr rfl) (fun x7 ex7 => ?_)
      have h := h x7 ex7
      have hx7 := hx5.upE (rgL rfl) ex7
      refine V_aload_0 dX11_keep_60 ?_
      refine V_iconst dX11_keep_61 ?_
      refine V_pIe dX11_keep_62 fl_R_157 ly_83 (by decide) wn_83_27 (fun x8 ex8 => ?_)
      have h := h x8 ex8
      have hx8 := hx7.upE (rgL rfl) ex8
      refine V_iconst dX11_keep_65 ?_
      exact V_ireturn dX11_keep_66 rfl ⟨_, _, rfl, hx8, rfl, (rgL rfl), h⟩
    · have h := h.2 c3
      refine V_aload_0 dX11_keep_20 ?_
      refine V_gR dX11_keep_21 fl_R_44 ly_83 (by decide) wr_83_28 ?_
      refine V_bipush dX11_keep_24 (by decide) ?_
      refine V_iload_1 dX11_keep_26 ?_
      refine V_imul dX11_keep_27 ?_
      refine V_iload_2 dX11_keep_28 ?_
      refine V_iadd dX11_keep_29 ?_
      refine V_aload_0 dX11_keep_30 ?_
      refine V_gR dX11_keep_31 fl_R_38 ly_83 (by decide) wr_83_25 ?_
      refine V_iload_2 dX11_keep_34 ?_
      obtain ⟨g9, h⟩ := h
      refine V_aI dX11_keep_35 ly_93 (by decide) (by decide) g9 ?_
      obtain ⟨g10, h⟩ := h
      refine V_sIe dX11_keep_36 ly_95 (by decide) (by decide) g10 (fun x11 ex11 => ?_)
      have h := h x11 ex11
      have hx11 := hx.upE (hx _ _) ex11
      refine V_iinc_2 (a2 := uu) dX11_keep_37 rfl ?_
      refine V_goto 14 dX11_keep_40 (by decide) ?_
      obtain ⟨g12, h⟩ := h
      exact ih _ _ _ hx11 r1 g12 h
set_option maxRecDepth 100000 in
theorem w_X11_keep {Γ : GE} {x : XM} (hx : WX x) {v1 : Int} {q : Int → XM → Prop} (r1 : Rg v1) (h : M_X11_keep x v1 q) : CV Γ 1 NF NF D_X11_keep [.ref (gB Γ + 83), vI v1] (mk Γ x) (QE Γ q) := by
  refine CV.of rfl (cat_all rfl) (Nat.le_of_ble_eq_true rfl) ?_
  show V Γ 1 NF NF D_X11_keep (QE Γ q) 0 [.ref (gB Γ + 83), vI v1, uu] [] NF (mk Γ x)
  unfold M_X11_keep at h
  refine V_iload_1 dX11_keep_0 ?_
  refine V_iconst dX11_keep_1 ?_
  refine V_iconst dX11_keep_2 ?_
  refine V_cSI3 (My := D_X11_in) dX11_keep_3 ml_R_73 ce_X11_in (Nat.le_refl _) (Nat.le_refl _) (by decide) (sumL rfl) (w_X11_in hx r1 (rgL rfl) (rgL rfl) h) (fun z1 hz1 h => ?_)
  refine V_if_ne 12 dX11_keep_6 (by decide) hz1 ⟨fun c2 => ?_, fun c2 => ?_⟩
  · have h := h.1 c2
    refine V_iconst dX11_keep_12 ?_
    refine V_istore_2 dX11_keep_13 rfl rfl ?_
    obtain ⟨m9, h⟩ := h
    exact w_X11_keep_14 m9 _ _ _ hx r1 (rgL rfl) h
  · have h := h.2 c2
    refine V_ldc dX11_keep_9 kc_R_205 ?_
    exact V_ireturn dX11_keep_11 rfl ⟨_, _, rfl, hx, rfl, (rgL rfl), h⟩
def M_X10_goBack (x : XM) (v1 : Int) (q : Int → XM → Prop) : Prop :=
  ((v1 < 0 → q (-1000000001) x) ∧ (¬ (v1 < 0) → ((v1 < 2 → (0 ≤ v1 ∧ v1 < 2) ∧ ((¬ (x (75 + 4 * v1.toNat) 2) = 0 → (0 ≤ v1 ∧ v1 < 2) ∧ M_X2_copyFrom 4 ((75 + 4 * v1.toNat) + 1) x  (fun x6 => (0 ≤ v1 ∧ v1 < 2) ∧ (∀ x8 : XM, x8 = uX x6 63 0 (x6 (75 + 4 * v1.toNat) 1) → M_X7_clear x8  (fun x9 => q 1 x9)))) ∧ ((x (75 + 4 * v1.toNat) 2) = 0 → q (-1000000003) x))) ∧ (¬ (v1 < 2) → q (-1000000001) x))))
set_option maxRecDepth 100000 in
theorem w_X10_goBack {Γ : GE} {x : XM} (hx : WX x) {v1 : Int} {q : Int → XM → Prop} (r1 : Rg v1) (h : M_X10_goBack x v1 q) : CV Γ 2 NF NF D_X10_goBack [.ref (gB Γ + 0), vI v1] (mk Γ x) (QE Γ q) := by
  refine CV.of rfl (cat_all rfl) (Nat.le_of_ble_eq_true rfl) ?_
  show V Γ 2 NF NF D_X10_goBack (QE Γ q) 0 [.ref (gB Γ + 0), vI v1] [] NF (mk Γ x)
  unfold M_X10_goBack at h
  refine V_iload_1 dX10_goBack_0 ?_
  refine V_if_lt 9 dX10_goBack_1 (by decide) r1 ⟨fun c1 => ?_, fun c1 => ?_⟩
  · have h := h.1 c1
    refine V_ldc dX10_goBack_9 kc_T_153 ?_
    exact V_ireturn dX10_goBack_11 rfl ⟨_, _, rfl, hx, rfl, (rgL rfl), h⟩
  · have h := h.2 c1
    refine V_iload_1 dX10_goBack_4 ?_
    refine V_iconst dX10_goBack_5 ?_
    refine V_icmp_lt 12 dX10_goBack_6 (by decide) r1 (rgL rfl) ⟨fun c2 => ?_, fun c2 => ?_⟩
    · have h := h.1 c2
      refine V_aload_0 dX10_goBack_12 ?_
      refine V_gR dX10_goBack_13 fl_T_46 ly_0 (by decide) wr_0_5 ?_
      refine V_iload_1 dX10_goBack_16 ?_
      obtain ⟨g3, h⟩ := h
      refine V_aM dX10_goBack_17 g3 ?_
      refine V_gI dX10_goBack_18 fl_T_112 (img_f (imgs_k g3.1 g3.2)).1 (lt_lay (imgs_k g3.1 g3.2) (by decide)) (img_w2 (imgs_k g3.1 g3.2)) ?_
      refine V_if_ne 27 dX10_goBack_21 (by decide) (hx _ _) ⟨fun c4 => ?_, fun c4 => ?_⟩
      · have h := h.1 c4
        refine V_aload_0 dX10_goBack_27 ?_
        refine V_gR dX10_goBack_28 fl_T_19 ly_0 (by decide) wr_0_1 ?_
        refine V_gR dX10_goBack_31 fl_T_100 ly_3 (by decide) wr_3_0 ?_
        refine V_aload_0 dX10_goBack_34 ?_
        refine V_gR dX10_goBack_35 fl_T_46 ly_0 (by decide) wr_0_5 ?_
        refine V_iload_1 dX10_goBack_38 ?_
        obtain ⟨g5, h⟩ := h
        refine V_aM dX10_goBack_39 g5 ?_
        refine V_gR dX10_goBack_40 fl_T_274 (img_f (imgs_k g5.1 g5.2)).1 (lt_lay (imgs_k g5.1 g5.2) (by decide)) (img_w0 (imgs_k g5.1 g5.2)) ?_
        refine V_cVU1 (My := D_X2_copyFrom) dX10_goBack_43 ml_T_275 ce_X2_copyFrom ly_4 (by decide) cl_2 (by decide) (Nat.le_refl _) (Nat.le_refl _) (by decide) (sumL rfl) (w_X2_copyFrom (show (lay 4).1 = 2 from rfl) (img_f (imgs_k g5.1 g5.2)).2 hx h) (fun x6 hx6 h => ?_)
        refine V_aload_0 dX10_goBack_46 ?_
        refine V_gR dX10_goBack_47 fl_T_40 ly_0 (by decide) wr_0_4 ?_
        refine V_aload_0 dX10_goBack_50 ?_
        refine V_gR dX10_goBack_51 fl_T_46 ly_0 (by decide) wr_0_5 ?_
        refine V_iload_1 dX10_goBack_54 ?_
        obtain ⟨g7, h⟩ := h
        refine V_aM dX10_goBack_55 g7 ?_
        refine V_gI dX10_goBack_56 fl_T_278 (img_f (imgs_k g7.1 g7.2)).1 (lt_lay (imgs_k g7.1 g7.2) (by decide)) (img_w1 (imgs_k g7.1 g7.2)) ?_
        refine V_pIe dX10_goBack_59 fl_T_271 ly_63 (by decide) wn_63_0 (fun x8 ex8 => ?_)
        have h := h x8 ex8
        have hx8 := hx6.upE (hx6 _ _) ex8
        refine V_aload_0 dX10_goBack_62 ?_
        refine V_gR dX10_goBack_63 fl_T_26 ly_0 (by decide) wr_0_2 ?_
        refine V_cVU0 (My := D_X7_clear) dX10_goBack_66 ml_T_111 ce_X7_clear ly_10 (by decide) cl_7 (by decide) (Nat.le_refl _) (Nat.le_refl _) (by decide) (sumL rfl) (w_X7_clear hx8 h) (fun x9 hx9 h => ?_)
        refine V_iconst dX10_goBack_69 ?_
        exact V_ireturn dX10_goBack_70 rfl ⟨_, _, rfl, hx9, rfl, (rgL rfl), h⟩
      · have h := h.2 c4
        refine V_ldc dX10_goBack_24 kc_T_190 ?_
        exact V_ireturn dX10_goBack_26 rfl ⟨_, _, rfl, hx, rfl, (rgL rfl), h⟩
    · have h := h.2 c2
      refine V_ldc dX10_goBack_9 kc_T_153 ?_
      exact V_ireturn dX10_goBack_11 rfl ⟨_, _, rfl, hx, rfl, (rgL rfl), h⟩
def M_X11_goBack_26 (q : Int → XM → Prop) : Nat → XM → Int → Int → Prop
  | 0, _, _, _ => False
  | n + 1, x, v1, v2 =>
  ((31 ≤ v2 → (0 ≤ v1 ∧ v1 < 2) ∧ (∀ x7 : XM, x7 = uX x 83 31 (x 96 (v1.toNat)) → ∀ x8 : XM, x8 = uX x7 83 27 0 → q 1 x8)) ∧ (¬ (31 ≤ v2) → (0 ≤ ((31 * v1) + v2) ∧ ((31 * v1) + v2) < 62) ∧ (0 ≤ v2 ∧ v2 < 31) ∧ (∀ x11 : XM, x11 = uX x 93 (v2.toNat) (x 95 ((((31 * v1) + v2)).toNat)) → (Rg (v2 + 1)) ∧ (M_X11_goBack_26 q n) x11 v1 (v2 + 1))))
def M_X11_goBack (x : XM) (v1 : Int) (q : Int → XM → Prop) : Prop :=
  M_X11_in x v1 0 1  (fun z1 => ((¬ z1 = 0 → (0 ≤ v1 ∧ v1 < 2) ∧ ((¬ (x 97 (v1.toNat)) = 0 → ∃ m : Nat, M_X11_goBack_26 q m x v1 0) ∧ ((x 97 (v1.toNat)) = 0 → q (-1000000003) x))) ∧ (z1 = 0 → q (-1000000001) x)))
set_option maxRecDepth 100000 in
theorem w_X11_goBack_26 {Γ : GE} {q : Int → XM → Prop} : ∀ (n : Nat) (x : XM) (v1 : Int) (v2 : Int) , WX x → Rg v1 → Rg v2 → M_X11_goBack_26 q n x v1 v2 → V Γ 1 NF NF D_X11_goBack (QE Γ q) 26 [.ref (gB Γ + 83), vI v1, vI v2] [] NF (mk Γ x) := by
  intro n
  induction n with
  | zero =>
    intro x v1 v2 hx r1 r2 h
    rw [M_X11_goBack_26.eq_1] at h
    exact h.elim
  | succ n ih =>
    intro x v1 v2 hx r1 r2 h
    rw [M_X11_goBack_26.eq_2] at h
    refine V_iload_2 dX11_goBack_26 ?_
    refine V_bipush dX11_goBack_27 (by decide) ?_
    refine V_icmp_ge 55 dX11_goBack_29 (by decide) r2 (rgL rfl) ⟨fun c5 => ?_, fun c5 => ?_⟩
    · have h := h.1 c5
      refine V_aload_0 dX11_goBack_55 ?_
      refine V_aload_0 dX11_goBack_56 ?_
      refine V_gR dX11_goBack_57 fl_R_47 ly_83 (by decide) wr_83_29 ?_
      refine V_iload_1 dX11_goBack_60 ?_
      obtain ⟨g6, h⟩ := h
      refine V_aI dX11_goBack_61 ly_96 (by decide) (by decide) g6 ?_
      refine V_pIe dX11_goBack_62 fl_R_236 ly_83 (by decide) wn_83_31 (fun x7 ex7 => ?_)
      have h := h x7 ex7
      have hx7 := hx.upE (hx _ _) ex7
      refine V_aload_0 dX11_goBack_65 ?_
      refine V_iconst dX11_goBack_66 ?_
      refine V_pIe dX11_goBack_67 fl_R_157 ly_83 (by decide) wn_83_27 (fun x8 ex8 => ?_)
      have h := h x8 ex8
      have hx8 := hx7.upE (rgL rfl) ex8
      refine V_iconst dX11_goBack_70 ?_
      exact V_ireturn dX11_goBack_71 rfl ⟨_, _, rfl, hx8, rfl, (rgL rfl), h⟩
    · have h := h.2 c5
      refine V_aload_0 dX11_goBack_32 ?_
      refine V_gR dX11_goBack_33 fl_R_38 ly_83 (by decide) wr_83_25 ?_
      refine V_iload_2 dX11_goBack_36 ?_
      refine V_aload_0 dX11_goBack_37 ?_
      refine V_gR dX11_goBack_38 fl_R_44 ly_83 (by decide) wr_83_28 ?_
      refine V_bipush dX11_goBack_41 (by decide) ?_
      refine V_iload_1 dX11_goBack_43 ?_
      refine V_imul dX11_goBack_44 ?_
      refine V_iload_2 dX11_goBack_45 ?_
      refine V_iadd dX11_goBack_46 ?_
      obtain ⟨g9, h⟩ := h
      refine V_aI dX11_goBack_47 ly_95 (by decide) (by decide) g9 ?_
      obtain ⟨g10, h⟩ := h
      refine V_sIe dX11_goBack_48 ly_93 (by decide) (by decide) g10 (fun x11 ex11 => ?_)
      have h := h x11 ex11
      have hx11 := hx.upE (hx _ _) ex11
      refine V_iinc_2 (a2 := uu) dX11_goBack_49 rfl ?_
      refine V_goto 26 dX11_goBack_52 (by decide) ?_
      obtain ⟨g12, h⟩ := h
      exact ih _ _ _ hx11 r1 g12 h
set_option maxRecDepth 100000 in
theorem w_X11_goBack {Γ : GE} {x : XM} (hx : WX x) {v1 : Int} {q : Int → XM → Prop} (r1 : Rg v1) (h : M_X11_goBack x v1 q) : CV Γ 1 NF NF D_X11_goBack [.ref (gB Γ + 83), vI v1] (mk Γ x) (QE Γ q) := by
  refine CV.of rfl (cat_all rfl) (Nat.le_of_ble_eq_true rfl) ?_
  show V Γ 1 NF NF D_X11_goBack (QE Γ q) 0 [.ref (gB Γ + 83), vI v1, uu] [] NF (mk Γ x)
  unfold M_X11_goBack at h
  refine V_iload_1 dX11_goBack_0 ?_
  refine V_iconst dX11_goBack_1 ?_
  refine V_iconst dX11_goBack_2 ?_
  refine V_cSI3 (My := D_X11_in) dX11_goBack_3 ml_R_73 ce_X11_in (Nat.le_refl _) (Nat.le_refl _) (by decide) (sumL rfl) (w_X11_in hx r1 (rgL rfl) (rgL rfl) h) (fun z1 hz1 h => ?_)
  refine V_if_ne 12 dX11_goBack_6 (by decide) hz1 ⟨fun c2 => ?_, fun c2 => ?_⟩
  · have h := h.1 c2
    refine V_aload_0 dX11_goBack_12 ?_
    refine V_gR dX11_goBack_13 fl_R_50 ly_83 (by decide) wr_83_30 ?_
    refine V_iload_1 dX11_goBack_16 ?_
    obtain ⟨g3, h⟩ := h
    refine V_aZ dX11_goBack_17 ly_97 (by decide) (by decide) g3 ?_
    refine V_if_ne 24 dX11_goBack_18 (by decide) (hx _ _) ⟨fun c4 => ?_, fun c4 => ?_⟩
    · have h := h.1 c4
      refine V_iconst dX11_goBack_24 ?_
      refine V_istore_2 dX11_goBack_25 rfl rfl ?_
      obtain ⟨m9, h⟩ := h
      exact w_X11_goBack_26 m9 _ _ _ hx r1 (rgL rfl) h
    · have h := h.2 c4
      refine V_ldc dX11_goBack_21 kc_R_224 ?_
      exact V_ireturn dX11_goBack_23 rfl ⟨_, _, rfl, hx, rfl, (rgL rfl), h⟩
  · have h := h.2 c2
    refine V_ldc dX11_goBack_9 kc_R_205 ?_
    exact V_ireturn dX11_goBack_11 rfl ⟨_, _, rfl, hx, rfl, (rgL rfl), h⟩
