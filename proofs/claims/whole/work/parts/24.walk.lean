def M_X11_sortOne_24 (q : XM → Prop) (x : XM) (s0 : Int) (s1 : Int) : Prop :=
  (0 ≤ s1 ∧ s1 < 31) ∧ (∀ x4 : XM, x4 = uX x 93 (s1.toNat) s0 → ((999999 ≤ (x4 93 30) → ∀ x6 : XM, x6 = uX x4 93 30 999999 → q x6) ∧ (¬ (999999 ≤ (x4 93 30)) → (Rg ((x4 93 30) + 1)) ∧ (∀ x8 : XM, x8 = uX x4 93 30 ((x4 93 30) + 1) → q x8))))
def M_X11_sortOne (x : XM) (v1 : Int) (q : XM → Prop) : Prop :=
  M_X11_goes x v1  (fun z1 => ((¬ z1 = (-1) → (Rg (1 + z1)) ∧ M_X11_sortOne_24 q x (1 + z1) v1) ∧ (z1 = (-1) → M_X11_sortOne_24 q x 7 v1)))
set_option maxRecDepth 100000 in
theorem w_X11_sortOne_24 {Γ : GE} {q : XM → Prop} : ∀ (x : XM) (s0 : Int) (s1 : Int) , WX x → Rg s0 → Rg s1 → M_X11_sortOne_24 q x s0 s1 → V Γ 4 NF NF D_X11_sortOne (QU Γ q) 24 [.ref (gB Γ + 83), uu, uu] [vI s0, vI s1, .ref (gB Γ + 93)] NF (mk Γ x) := by
  intro x s0 s1 hx rs0 rs1 h
  unfold M_X11_sortOne_24 at h
  obtain ⟨g3, h⟩ := h
  refine V_sIe dX11_sortOne_24 ly_93 (by decide) (by decide) g3 (fun x4 ex4 => ?_)
  have h := h x4 ex4
  have hx4 := hx.upE rs0 ex4
  refine V_aload_0 dX11_sortOne_25 ?_
  refine V_gR dX11_sortOne_26 fl_R_38 ly_83 (by decide) wr_83_25 ?_
  refine V_bipush dX11_sortOne_29 (by decide) ?_
  refine V_aload_0 dX11_sortOne_31 ?_
  refine V_gR dX11_sortOne_32 fl_R_38 ly_83 (by decide) wr_83_25 ?_
  refine V_bipush dX11_sortOne_35 (by decide) ?_
  refine V_aI dX11_sortOne_37 ly_93 (by decide) (by decide) (ibd rfl) ?_
  refine V_ldc dX11_sortOne_38 kc_R_228 ?_
  refine V_icmp_ge 55 dX11_sortOne_40 (by decide) (hx4 _ _) (rgL rfl) ⟨fun c5 => ?_, fun c5 => ?_⟩
  · have h := h.1 c5
    refine V_ldc dX11_sortOne_55 kc_R_228 ?_
    refine V_sIe dX11_sortOne_57 ly_93 (by decide) (by decide) (ibd rfl) (fun x6 ex6 => ?_)
    have h := h x6 ex6
    have hx6 := hx4.upE (rgL rfl) ex6
    exact V_vreturn dX11_sortOne_58 rfl ⟨_, rfl, hx6, rfl, h⟩
  · have h := h.2 c5
    refine V_aload_0 dX11_sortOne_43 ?_
    refine V_gR dX11_sortOne_44 fl_R_38 ly_83 (by decide) wr_83_25 ?_
    refine V_bipush dX11_sortOne_47 (by decide) ?_
    refine V_aI dX11_sortOne_49 ly_93 (by decide) (by decide) (ibd rfl) ?_
    refine V_iconst dX11_sortOne_50 ?_
    refine V_iadd dX11_sortOne_51 ?_
    refine V_goto 57 dX11_sortOne_52 (by decide) ?_
    obtain ⟨g7, h⟩ := h
    refine V_sIe dX11_sortOne_57 ly_93 (by decide) (by decide) (ibd rfl) (fun x8 ex8 => ?_)
    have h := h x8 ex8
    have hx8 := hx4.upE g7 ex8
    exact V_vreturn dX11_sortOne_58 rfl ⟨_, rfl, hx8, rfl, h⟩
set_option maxRecDepth 100000 in
theorem w_X11_sortOne {Γ : GE} {x : XM} (hx : WX x) {v1 : Int} {q : XM → Prop} (r1 : Rg v1) (h : M_X11_sortOne x v1 q) : CV Γ 4 NF NF D_X11_sortOne [.ref (gB Γ + 83), vI v1] (mk Γ x) (QU Γ q) := by
  refine CV.of rfl (cat_all rfl) (Nat.le_of_ble_eq_true rfl) ?_
  show V Γ 4 NF NF D_X11_sortOne (QU Γ q) 0 [.ref (gB Γ + 83), vI v1, uu] [] NF (mk Γ x)
  unfold M_X11_sortOne at h
  refine V_aload_0 dX11_sortOne_0 ?_
  refine V_iload_1 dX11_sortOne_1 ?_
  refine V_cVI1 (My := D_X11_goes) dX11_sortOne_2 ml_R_192 ce_X11_goes ly_83 (by decide) cl_11 (by decide) (Nat.le_refl _) (Nat.le_refl _) (by decide) (sumL rfl) (w_X11_goes hx r1 h) (fun z1 hz1 h => ?_)
  refine V_istore_2 dX11_sortOne_5 rfl rfl ?_
  refine V_aload_0 dX11_sortOne_6 ?_
  refine V_gR dX11_sortOne_7 fl_R_38 ly_83 (by decide) wr_83_25 ?_
  refine V_iload_1 dX11_sortOne_10 ?_
  refine V_iload_2 dX11_sortOne_11 ?_
  refine V_iconst dX11_sortOne_12 ?_
  refine V_icmp_ne 21 dX11_sortOne_13 (by decide) hz1 (rgL rfl) ⟨fun c2 => ?_, fun c2 => ?_⟩
  · have h := h.1 c2
    refine V_iconst dX11_sortOne_21 ?_
    refine V_iload_2 dX11_sortOne_22 ?_
    refine V_iadd dX11_sortOne_23 ?_
    obtain ⟨g9, h⟩ := h
    refine V_fg_1 ?_
    refine V_fg_2 ?_
    exact w_X11_sortOne_24 _ _ _ hx g9 r1 h
  · have h := h.2 c2
    refine V_bipush dX11_sortOne_16 (by decide) ?_
    refine V_goto 24 dX11_sortOne_18 (by decide) ?_
    refine V_fg_1 ?_
    refine V_fg_2 ?_
    exact w_X11_sortOne_24 _ _ _ hx (rgL rfl) r1 h
def M_X11_bitsOf_4 (q : Int → Prop) (x : XM) : Nat → Int → Int → Int → Prop
  | 0, _, _, _ => False
  | n + 1, v0, v1, v2 =>
  ((12 ≤ v2 → q v1) ∧ (¬ (12 ≤ v2) → (Rg (v1 + (jand (jshr v0 v2) 1))) ∧ (Rg (v2 + 1)) ∧ (M_X11_bitsOf_4 q x n) v0 (v1 + (jand (jshr v0 v2) 1)) (v2 + 1)))
def M_X11_bitsOf (x : XM) (v0 : Int) (q : Int → Prop) : Prop :=
  ∃ m : Nat, M_X11_bitsOf_4 q x m v0 0 0
set_option maxRecDepth 100000 in
theorem w_X11_bitsOf_4 {Γ : GE} {q : Int → Prop} {x : XM} (hx : WX x) : ∀ (n : Nat) (v0 : Int) (v1 : Int) (v2 : Int) , Rg v0 → Rg v1 → Rg v2 → M_X11_bitsOf_4 q x n v0 v1 v2 → V Γ 0 NF NF D_X11_bitsOf (QI Γ x q) 4 [vI v0, vI v1, vI v2] [] NF (mk Γ x) := by
  intro n
  induction n with
  | zero =>
    intro v0 v1 v2 r0 r1 r2 h
    rw [M_X11_bitsOf_4.eq_1] at h
    exact h.elim
  | succ n ih =>
    intro v0 v1 v2 r0 r1 r2 h
    rw [M_X11_bitsOf_4.eq_2] at h
    refine V_iload_2 dX11_bitsOf_4 ?_
    refine V_bipush dX11_bitsOf_5 (by decide) ?_
    refine V_icmp_ge 24 dX11_bitsOf_7 (by decide) r2 (rgL rfl) ⟨fun c1 => ?_, fun c1 => ?_⟩
    · have h := h.1 c1
      refine V_iload_1 dX11_bitsOf_24 ?_
      exact V_ireturn dX11_bitsOf_25 rfl ⟨rfl, _, rfl, r1, h⟩
    · have h := h.2 c1
      refine V_iload_1 dX11_bitsOf_10 ?_
      refine V_iload_0 dX11_bitsOf_11 ?_
      refine V_iload_2 dX11_bitsOf_12 ?_
      refine V_ishr dX11_bitsOf_13 ?_
      refine V_iconst dX11_bitsOf_14 ?_
      refine V_iand dX11_bitsOf_15 ?_
      refine V_iadd dX11_bitsOf_16 ?_
      refine V_istore_1 dX11_bitsOf_17 rfl rfl ?_
      refine V_iinc_2 (a2 := uu) dX11_bitsOf_18 rfl ?_
      refine V_goto 4 dX11_bitsOf_21 (by decide) ?_
      obtain ⟨g2, h⟩ := h
      obtain ⟨g3, h⟩ := h
      exact ih _ _ _ r0 g2 g3 h
set_option maxRecDepth 100000 in
theorem w_X11_bitsOf {Γ : GE} {x : XM} (hx : WX x) {v0 : Int} {q : Int → Prop} (r0 : Rg v0) (h : M_X11_bitsOf x v0 q) : CV Γ 0 NF NF D_X11_bitsOf [vI v0] (mk Γ x) (QI Γ x q) := by
  refine CV.of rfl (cat_all rfl) (Nat.le_of_ble_eq_true rfl) ?_
  show V Γ 0 NF NF D_X11_bitsOf (QI Γ x q) 0 [vI v0, uu, uu] [] NF (mk Γ x)
  unfold M_X11_bitsOf at h
  refine V_iconst dX11_bitsOf_0 ?_
  refine V_istore_1 dX11_bitsOf_1 rfl rfl ?_
  refine V_iconst dX11_bitsOf_2 ?_
  refine V_istore_2 dX11_bitsOf_3 rfl rfl ?_
  obtain ⟨m9, h⟩ := h
  exact w_X11_bitsOf_4 hx m9 _ _ _ r0 (rgL rfl) (rgL rfl) h
def M_X11_sort_19 (q : Int → XM → Prop) : Nat → XM → Int → Int → Prop
  | 0, _, _, _ => False
  | n + 1, x, v1, v2 =>
  (((x 83 3) ≤ v2 → M_X11_bitsOf x v1  (fun z5 => q z5 x)) ∧ (¬ ((x 83 3) ≤ v2) → M_X11_has x v1 v2  (fun z6 => ((z6 = 0 → (Rg (v2 + 1)) ∧ (M_X11_sort_19 q n) x v1 (v2 + 1)) ∧ (¬ z6 = 0 → M_X11_sortOne x v2  (fun x9 => (Rg (v2 + 1)) ∧ (M_X11_sort_19 q n) x9 v1 (v2 + 1)))))))
def M_X11_sort (x : XM) (q : Int → XM → Prop) : Prop :=
  M_X11_setIn x 0  (fun z1 => ((¬ z1 = 0 → M_X11_know x  (fun x3 => ∃ m : Nat, M_X11_sort_19 q m x3 z1 0)) ∧ (z1 = 0 → q (-1000000003) x)))
set_option maxRecDepth 100000 in
theorem w_X11_sort_19 {Γ : GE} {q : Int → XM → Prop} : ∀ (n : Nat) (x : XM) (v1 : Int) (v2 : Int) , WX x → Rg v1 → Rg v2 → M_X11_sort_19 q n x v1 v2 → V Γ 5 NF NF D_X11_sort (QE Γ q) 19 [.ref (gB Γ + 83), vI v1, vI v2] [] NF (mk Γ x) := by
  intro n
  induction n with
  | zero =>
    intro x v1 v2 hx r1 r2 h
    rw [M_X11_sort_19.eq_1] at h
    exact h.elim
  | succ n ih =>
    intro x v1 v2 hx r1 r2 h
    rw [M_X11_sort_19.eq_2] at h
    refine V_iload_2 dX11_sort_19 ?_
    refine V_aload_0 dX11_sort_20 ?_
    refine V_gI dX11_sort_21 fl_R_145 ly_83 (by decide) wn_83_3 ?_
    refine V_icmp_ge 46 dX11_sort_24 (by decide) r2 (hx _ _) ⟨fun c4 => ?_, fun c4 => ?_⟩
    · have h := h.1 c4
      refine V_iload_1 dX11_sort_46 ?_
      refine V_cSI1 (My := D_X11_bitsOf) dX11_sort_47 ml_R_233 ce_X11_bitsOf (Nat.le_refl _) (Nat.le_refl _) (by decide) (sumL rfl) (w_X11_bitsOf hx r1 h) (fun z5 hz5 h => ?_)
      exact V_ireturn dX11_sort_50 rfl ⟨_, _, rfl, hx, rfl, hz5, h⟩
    · have h := h.2 c4
      refine V_iload_1 dX11_sort_27 ?_
      refine V_iload_2 dX11_sort_28 ?_
      refine V_cSI2 (My := D_X11_has) dX11_sort_29 ml_R_177 ce_X11_has (Nat.le_refl _) (Nat.le_refl _) (by decide) (sumL rfl) (w_X11_has hx r1 r2 h) (fun z6 hz6 h => ?_)
      refine V_if_eq 40 dX11_sort_32 (by decide) hz6 ⟨fun c7 => ?_, fun c7 => ?_⟩
      · have h := h.1 c7
        refine V_iinc_2 (a2 := uu) dX11_sort_40 rfl ?_
        refine V_goto 19 dX11_sort_43 (by decide) ?_
        obtain ⟨g8, h⟩ := h
        exact ih _ _ _ hx r1 g8 h
      · have h := h.2 c7
        refine V_aload_0 dX11_sort_35 ?_
        refine V_iload_2 dX11_sort_36 ?_
        refine V_cVU1 (My := D_X11_sortOne) dX11_sort_37 ml_R_229 ce_X11_sortOne ly_83 (by decide) cl_11 (by decide) (Nat.le_refl _) (Nat.le_refl _) (by decide) (sumL rfl) (w_X11_sortOne hx r2 h) (fun x9 hx9 h => ?_)
        refine V_iinc_2 (a2 := uu) dX11_sort_40 rfl ?_
        refine V_goto 19 dX11_sort_43 (by decide) ?_
        obtain ⟨g10, h⟩ := h
        exact ih _ _ _ hx9 r1 g10 h
set_option maxRecDepth 100000 in
theorem w_X11_sort {Γ : GE} {x : XM} (hx : WX x) {q : Int → XM → Prop} (h : M_X11_sort x q) : CV Γ 5 NF NF D_X11_sort [.ref (gB Γ + 83)] (mk Γ x) (QE Γ q) := by
  refine CV.of rfl (cat_all rfl) (Nat.le_of_ble_eq_true rfl) ?_
  show V Γ 5 NF NF D_X11_sort (QE Γ q) 0 [.ref (gB Γ + 83), uu, uu] [] NF (mk Γ x)
  unfold M_X11_sort at h
  refine V_aload_0 dX11_sort_0 ?_
  refine V_iconst dX11_sort_1 ?_
  refine V_cVI1 (My := D_X11_setIn) dX11_sort_2 ml_R_183 ce_X11_setIn ly_83 (by decide) cl_11 (by decide) (Nat.le_refl _) (Nat.le_refl _) (by decide) (sumL rfl) (w_X11_setIn hx (rgL rfl) h) (fun z1 hz1 h => ?_)
  refine V_istore_1 dX11_sort_5 rfl rfl ?_
  refine V_iload_1 dX11_sort_6 ?_
  refine V_if_ne 13 dX11_sort_7 (by decide) hz1 ⟨fun c2 => ?_, fun c2 => ?_⟩
  · have h := h.1 c2
    refine V_aload_0 dX11_sort_13 ?_
    refine V_cVU0 (My := D_X11_know) dX11_sort_14 ml_R_225 ce_X11_know ly_83 (by decide) cl_11 (by decide) (Nat.le_refl _) (Nat.le_refl _) (by decide) (sumL rfl) (w_X11_know hx h) (fun x3 hx3 h => ?_)
    refine V_iconst dX11_sort_17 ?_
    refine V_istore_2 dX11_sort_18 rfl rfl ?_
    obtain ⟨m9, h⟩ := h
    exact w_X11_sort_19 m9 _ _ _ hx3 hz1 (rgL rfl) h
  · have h := h.2 c2
    refine V_ldc dX11_sort_10 kc_R_224 ?_
    exact V_ireturn dX11_sort_12 rfl ⟨_, _, rfl, hx, rfl, (rgL rfl), h⟩
def M_X10_sew (x : XM) (v1 : Int) (v2 : Int) (q : Int → XM → Prop) : Prop :=
  M_X10_isThere x 1 v1  (fun z1 => ((z1 = 0 → q (-1000000001) x) ∧ (¬ z1 = 0 → M_X10_isThere x 4 v2  (fun z3 => ((¬ z3 = 0 → M_X0_isSewn x v1  (fun z5 => ((¬ z5 = 0 → q (-1000000003) x) ∧ (z5 = 0 → M_X0_sewnTo x v2  (fun z7 => ((¬ z7 = (-1) → q (-1000000003) x) ∧ (z7 = (-1) → M_X0_holds x v1  (fun z9 => M_X0_weight x v2  (fun z10 => ((z10 ≤ z9 → M_X7_remember x  (fun x12 => (Rg (8 + v2)) ∧ (0 ≤ v1 ∧ v1 < 12) ∧ (∀ x15 : XM, x15 = uX x12 5 (v1.toNat) (8 + v2) → M_X0_holds x15 v1  (fun z16 => q z16 x15)))) ∧ (¬ (z10 ≤ z9) → q (-1000000003) x))))))))))) ∧ (z3 = 0 → q (-1000000001) x))))))
set_option maxRecDepth 100000 in
theorem w_X10_sew {Γ : GE} {x : XM} (hx : WX x) {v1 v2 : Int} {q : Int → XM → Prop} (r1 : Rg v1) (r2 : Rg v2) (h : M_X10_sew x v1 v2 q) : CV Γ 4 NF NF D_X10_sew [.ref (gB Γ + 0), vI v1, vI v2] (mk Γ x) (QE Γ q) := by
  refine CV.of rfl (cat_all rfl) (Nat.le_of_ble_eq_true rfl) ?_
  show V Γ 4 NF NF D_X10_sew (QE Γ q) 0 [.ref (gB Γ + 0), vI v1, vI v2] [] NF (mk Γ x)
  unfold M_X10_sew at h
  refine V_aload_0 dX10_sew_0 ?_
  refine V_iconst dX10_sew_1 ?_
  refine V_iload_1 dX10_sew_2 ?_
  refine V_cVI2 (My := D_X10_isThere) dX10_sew_3 ml_T_149 ce_X10_isThere ly_0 (by decide) cl_10 (by decide) (Nat.le_refl _) (Nat.le_refl _) (by decide) (sumL rfl) (w_X10_isThere hx (rgL rfl) r1 h) (fun z1 hz1 h => ?_)
  refine V_if_eq 18 dX10_sew_6 (by decide) hz1 ⟨fun c2 => ?_, fun c2 => ?_⟩
  · have h := h.1 c2
    refine V_ldc dX10_sew_18 kc_T_153 ?_
    exact V_ireturn dX10_sew_20 rfl ⟨_, _, rfl, hx, rfl, (rgL rfl), h⟩
  · have h := h.2 c2
    refine V_aload_0 dX10_sew_9 ?_
    refine V_iconst dX10_sew_10 ?_
    refine V_iload_2 dX10_sew_11 ?_
    refine V_cVI2 (My := D_X10_isThere) dX10_sew_12 ml_T_149 ce_X10_isThere ly_0 (by decide) cl_10 (by decide) (Nat.le_refl _) (Nat.le_refl _) (by decide) (sumL rfl) (w_X10_isThere hx (rgL rfl) r2 h) (fun z3 hz3 h => ?_)
    refine V_if_ne 21 dX10_sew_15 (by decide) hz3 ⟨fun c4 => ?_, fun c4 => ?_⟩
    · have h := h.1 c4
      refine V_aload_0 dX10_sew_21 ?_
      refine V_gR dX10_sew_22 fl_T_19 ly_0 (by decide) wr_0_1 ?_
      refine V_iload_1 dX10_sew_25 ?_
      refine V_cVI1 (My := D_X0_isSewn) dX10_sew_26 ml_T_163 ce_X0_isSewn ly_3 (by decide) cl_0 (by decide) (Nat.le_refl _) (Nat.le_refl _) (by decide) (sumL rfl) (w_X0_isSewn hx r1 h) (fun z5 hz5 h => ?_)
      refine V_if_ne 63 dX10_sew_29 (by decide) hz5 ⟨fun c6 => ?_, fun c6 => ?_⟩
      · have h := h.1 c6
        refine V_ldc dX10_sew_63 kc_T_190 ?_
        exact V_ireturn dX10_sew_65 rfl ⟨_, _, rfl, hx, rfl, (rgL rfl), h⟩
      · have h := h.2 c6
        refine V_aload_0 dX10_sew_32 ?_
        refine V_gR dX10_sew_33 fl_T_19 ly_0 (by decide) wr_0_1 ?_
        refine V_iload_2 dX10_sew_36 ?_
        refine V_cVI1 (My := D_X0_sewnTo) dX10_sew_37 ml_T_184 ce_X0_sewnTo ly_3 (by decide) cl_0 (by decide) (Nat.le_refl _) (Nat.le_refl _) (by decide) (sumL rfl) (w_X0_sewnTo hx r2 h) (fun z7 hz7 h => ?_)
        refine V_iconst dX10_sew_40 ?_
        refine V_icmp_ne 63 dX10_sew_41 (by decide) hz7 (rgL rfl) ⟨fun c8 => ?_, fun c8 => ?_⟩
        · have h := h.1 c8
          refine V_ldc dX10_sew_63 kc_T_190 ?_
          exact V_ireturn dX10_sew_65 rfl ⟨_, _, rfl, hx, rfl, (rgL rfl), h⟩
        · have h := h.2 c8
          refine V_aload_0 dX10_sew_44 ?_
          refine V_gR dX10_sew_45 fl_T_19 ly_0 (by decide) wr_0_1 ?_
          refine V_iload_1 dX10_sew_48 ?_
          refine V_cVI1 (My := D_X0_holds) dX10_sew_49 ml_T_157 ce_X0_holds ly_3 (by decide) cl_0 (by decide) (Nat.le_refl _) (Nat.le_refl _) (by decide) (sumL rfl) (w_X0_holds hx r1 h) (fun z9 hz9 h => ?_)
          refine V_aload_0 dX10_sew_52 ?_
          refine V_gR dX10_sew_53 fl_T_19 ly_0 (by decide) wr_0_1 ?_
          refine V_iload_2 dX10_sew_56 ?_
          refine V_cVI1 (My := D_X0_weight) dX10_sew_57 ml_T_181 ce_X0_weight ly_3 (by decide) cl_0 (by decide) (Nat.le_refl _) (Nat.le_refl _) (by decide) (sumL rfl) (w_X0_weight hx r2 h) (fun z10 hz10 h => ?_)
          refine V_icmp_ge 66 dX10_sew_60 (by decide) hz9 hz10 ⟨fun c11 => ?_, fun c11 => ?_⟩
          · have h := h.1 c11
            refine V_aload_0 dX10_sew_66 ?_
            refine V_gR dX10_sew_67 fl_T_26 ly_0 (by decide) wr_0_2 ?_
            refine V_aload_0 dX10_sew_70 ?_
            refine V_gR dX10_sew_71 fl_T_19 ly_0 (by decide) wr_0_1 ?_
            refine V_gR dX10_sew_74 fl_T_100 ly_3 (by decide) wr_3_0 ?_
            refine V_cVU1 (My := D_X7_remember) dX10_sew_77 ml_T_191 ce_X7_remember ly_10 (by decide) cl_7 (by decide) (Nat.le_refl _) (Nat.le_refl _) (by decide) (sumL rfl) (w_X7_remember hx h) (fun x12 hx12 h => ?_)
            refine V_aload_0 dX10_sew_80 ?_
            refine V_gR dX10_sew_81 fl_T_19 ly_0 (by decide) wr_0_1 ?_
            refine V_gR dX10_sew_84 fl_T_100 ly_3 (by decide) wr_3_0 ?_
            refine V_gR dX10_sew_87 fl_T_167 ly_4 (by decide) (r := 5) (clo_w0 (k := 4) rfl) ?_
            refine V_iload_1 dX10_sew_90 ?_
            refine V_bipush dX10_sew_91 (by decide) ?_
            refine V_iload_2 dX10_sew_93 ?_
            refine V_iadd dX10_sew_94 ?_
            obtain ⟨g13, h⟩ := h
            obtain ⟨g14, h⟩ := h
            refine V_sIe dX10_sew_95 ly_5 (by decide) (by decide) g14 (fun x15 ex15 => ?_)
            have h := h x15 ex15
            have hx15 := hx12.upE g13 ex15
            refine V_aload_0 dX10_sew_96 ?_
            refine V_gR dX10_sew_97 fl_T_19 ly_0 (by decide) wr_0_1 ?_
            refine V_iload_1 dX10_sew_100 ?_
            refine V_cVI1 (My := D_X0_holds) dX10_sew_101 ml_T_157 ce_X0_holds ly_3 (by decide) cl_0 (by decide) (Nat.le_refl _) (Nat.le_refl _) (by decide) (sumL rfl) (w_X0_holds hx15 r1 h) (fun z16 hz16 h => ?_)
            exact V_ireturn dX10_sew_104 rfl ⟨_, _, rfl, hx15, rfl, hz16, h⟩
          · have h := h.2 c11
            refine V_ldc dX10_sew_63 kc_T_190 ?_
            exact V_ireturn dX10_sew_65 rfl ⟨_, _, rfl, hx, rfl, (rgL rfl), h⟩
    · have h := h.2 c4
      refine V_ldc dX10_sew_18 kc_T_153 ?_
      exact V_ireturn dX10_sew_20 rfl ⟨_, _, rfl, hx, rfl, (rgL rfl), h⟩
def M_X11_sew (x : XM) (v1 : Int) (v2 : Int) (q : Int → XM → Prop) : Prop :=
  M_X11_isButton x v1  (fun z1 => ((z1 = 0 → q (-1000000001) x) ∧ (¬ z1 = 0 → M_X11_isNeed x v2  (fun z3 => ((¬ z3 = 0 → (0 ≤ v1 ∧ v1 < 31) ∧ ((8 ≤ (x 93 (v1.toNat)) → q (-1000000003) x) ∧ (¬ (8 ≤ (x 93 (v1.toNat))) → M_X11_sewnTo x v2  (fun z7 => ((¬ z7 = (-1) → q (-1000000003) x) ∧ (z7 = (-1) → M_X11_holds x v1  (fun z9 => (0 ≤ v2 ∧ v2 < 5) ∧ (((x 88 (v2.toNat)) ≤ z9 → M_X11_know x  (fun x12 => (Rg (8 + v2)) ∧ (0 ≤ v1 ∧ v1 < 31) ∧ (∀ x15 : XM, x15 = uX x12 93 (v1.toNat) (8 + v2) → M_X11_holds x15 v1  (fun z16 => q z16 x15)))) ∧ (¬ ((x 88 (v2.toNat)) ≤ z9) → q (-1000000003) x))))))))) ∧ (z3 = 0 → q (-1000000001) x))))))
set_option maxRecDepth 100000 in
theorem w_X11_sew {Γ : GE} {x : XM} (hx : WX x) {v1 v2 : Int} {q : Int → XM → Prop} (r1 : Rg v1) (r2 : Rg v2) (h : M_X11_sew x v1 v2 q) : CV Γ 2 NF NF D_X11_sew [.ref (gB Γ + 83), vI v1, vI v2] (mk Γ x) (QE Γ q) := by
  refine CV.of rfl (cat_all rfl) (Nat.le_of_ble_eq_true rfl) ?_
  show V Γ 2 NF NF D_X11_sew (QE Γ q) 0 [.ref (gB Γ + 83), vI v1, vI v2] [] NF (mk Γ x)
  unfold M_X11_sew at h
  refine V_aload_0 dX11_sew_0 ?_
  refine V_iload_1 dX11_sew_1 ?_
  refine V_cVI1 (My := D_X11_isButton) dX11_sew_2 ml_R_201 ce_X11_isButton ly_83 (by decide) cl_11 (by decide) (Nat.le_refl _) (Nat.le_refl _) (by decide) (sumL rfl) (w_X11_isButton hx r1 h) (fun z1 hz1 h => ?_)
  refine V_if_eq 16 dX11_sew_5 (by decide) hz1 ⟨fun c2 => ?_, fun c2 => ?_⟩
  · have h := h.1 c2
    refine V_ldc dX11_sew_16 kc_R_205 ?_
    exact V_ireturn dX11_sew_18 rfl ⟨_, _, rfl, hx, rfl, (rgL rfl), h⟩
  · have h := h.2 c2
    refine V_aload_0 dX11_sew_8 ?_
    refine V_iload_2 dX11_sew_9 ?_
    refine V_cVI1 (My := D_X11_isNeed) dX11_sew_10 ml_R_215 ce_X11_isNeed ly_83 (by decide) cl_11 (by decide) (Nat.le_refl _) (Nat.le_refl _) (by decide) (sumL rfl) (w_X11_isNeed hx r2 h) (fun z3 hz3 h => ?_)
    refine V_if_ne 19 dX11_sew_13 (by decide) hz3 ⟨fun c4 => ?_, fun c4 => ?_⟩
    · have h := h.1 c4
      refine V_aload_0 dX11_sew_19 ?_
      refine V_gR dX11_sew_20 fl_R_38 ly_83 (by decide) wr_83_25 ?_
      refine V_iload_1 dX11_sew_23 ?_
      obtain ⟨g5, h⟩ := h
      refine V_aI dX11_sew_24 ly_93 (by decide) (by decide) g5 ?_
      refine V_bipush dX11_sew_25 (by decide) ?_
      refine V_icmp_ge 53 dX11_sew_27 (by decide) (hx _ _) (rgL rfl) ⟨fun c6 => ?_, fun c6 => ?_⟩
      · have h := h.1 c6
        refine V_ldc dX11_sew_53 kc_R_224 ?_
        exact V_ireturn dX11_sew_55 rfl ⟨_, _, rfl, hx, rfl, (rgL rfl), h⟩
      · have h := h.2 c6
        refine V_aload_0 dX11_sew_30 ?_
        refine V_iload_2 dX11_sew_31 ?_
        refine V_cVI1 (My := D_X11_sewnTo) dX11_sew_32 ml_R_218 ce_X11_sewnTo ly_83 (by decide) cl_11 (by decide) (Nat.le_refl _) (Nat.le_refl _) (by decide) (sumL rfl) (w_X11_sewnTo hx r2 h) (fun z7 hz7 h => ?_)
        refine V_iconst dX11_sew_35 ?_
        refine V_icmp_ne 53 dX11_sew_36 (by decide) hz7 (rgL rfl) ⟨fun c8 => ?_, fun c8 => ?_⟩
        · have h := h.1 c8
          refine V_ldc dX11_sew_53 kc_R_224 ?_
          exact V_ireturn dX11_sew_55 rfl ⟨_, _, rfl, hx, rfl, (rgL rfl), h⟩
        · have h := h.2 c8
          refine V_aload_0 dX11_sew_39 ?_
          refine V_iload_1 dX11_sew_40 ?_
          refine V_cVI1 (My := D_X11_holds) dX11_sew_41 ml_R_180 ce_X11_holds ly_83 (by decide) cl_11 (by decide) (Nat.le_refl _) (Nat.le_refl _) (by decide) (sumL rfl) (w_X11_holds hx r1 h) (fun z9 hz9 h => ?_)
          refine V_aload_0 dX11_sew_44 ?_
          refine V_gR dX11_sew_45 fl_R_23 ly_83 (by decide) wr_83_10 ?_
          refine V_iload_2 dX11_sew_48 ?_
          obtain ⟨g10, h⟩ := h
          refine V_aI dX11_sew_49 ly_88 (by decide) (by decide) g10 ?_
          refine V_icmp_ge 56 dX11_sew_50 (by decide) hz9 (hx _ _) ⟨fun c11 => ?_, fun c11 => ?_⟩
          · have h := h.1 c11
            refine V_aload_0 dX11_sew_56 ?_
            refine V_cVU0 (My := D_X11_know) dX11_sew_57 ml_R_225 ce_X11_know ly_83 (by decide) cl_11 (by decide) (Nat.le_refl _) (Nat.le_refl _) (by decide) (sumL rfl) (w_X11_know hx h) (fun x12 hx12 h => ?_)
            refine V_aload_0 dX11_sew_60 ?_
            refine V_gR dX11_sew_61 fl_R_38 ly_83 (by decide) wr_83_25 ?_
            refine V_iload_1 dX11_sew_64 ?_
            refine V_bipush dX11_sew_65 (by decide) ?_
            refine V_iload_2 dX11_sew_67 ?_
            refine V_iadd dX11_sew_68 ?_
            obtain ⟨g13, h⟩ := h
            obtain ⟨g14, h⟩ := h
            refine V_sIe dX11_sew_69 ly_93 (by decide) (by decide) g14 (fun x15 ex15 => ?_)
            have h := h x15 ex15
            have hx15 := hx12.upE g13 ex15
            refine V_aload_0 dX11_sew_70 ?_
            refine V_iload_1 dX11_sew_71 ?_
            refine V_cVI1 (My := D_X11_holds) dX11_sew_72 ml_R_180 ce_X11_holds ly_83 (by decide) cl_11 (by decide) (Nat.le_refl _) (Nat.le_refl _) (by decide) (sumL rfl) (w_X11_holds hx15 r1 h) (fun z16 hz16 h => ?_)
            exact V_ireturn dX11_sew_75 rfl ⟨_, _, rfl, hx15, rfl, hz16, h⟩
          · have h := h.2 c11
            refine V_ldc dX11_sew_53 kc_R_224 ?_
            exact V_ireturn dX11_sew_55 rfl ⟨_, _, rfl, hx, rfl, (rgL rfl), h⟩
    · have h := h.2 c4
      refine V_ldc dX11_sew_16 kc_R_205 ?_
      exact V_ireturn dX11_sew_18 rfl ⟨_, _, rfl, hx, rfl, (rgL rfl), h⟩
def M_X10_unpick (x : XM) (v1 : Int) (q : Int → XM → Prop) : Prop :=
  M_X10_isThere x 4 v1  (fun z1 => ((¬ z1 = 0 → M_X0_sewnTo x v1  (fun z3 => ((¬ z3 = (-1) → M_X7_remember x  (fun x5 => (0 ≤ z3 ∧ z3 < 12) ∧ (∀ x7 : XM, x7 = uX x5 5 (z3.toNat) 6 → ∀ x8 : XM, x8 = uX x7 4 2 (jor (x7 4 2) (jshl 1 z3)) → q z3 x8))) ∧ (z3 = (-1) → q (-1000000003) x)))) ∧ (z1 = 0 → q (-1000000001) x)))
set_option maxRecDepth 100000 in
theorem w_X10_unpick {Γ : GE} {x : XM} (hx : WX x) {v1 : Int} {q : Int → XM → Prop} (r1 : Rg v1) (h : M_X10_unpick x v1 q) : CV Γ 4 NF NF D_X10_unpick [.ref (gB Γ + 0), vI v1] (mk Γ x) (QE Γ q) := by
  refine CV.of rfl (cat_all rfl) (Nat.le_of_ble_eq_true rfl) ?_
  show V Γ 4 NF NF D_X10_unpick (QE Γ q) 0 [.ref (gB Γ + 0), vI v1, uu] [] NF (mk Γ x)
  unfold M_X10_unpick at h
  refine V_aload_0 dX10_unpick_0 ?_
  refine V_iconst dX10_unpick_1 ?_
  refine V_iload_1 dX10_unpick_2 ?_
  refine V_cVI2 (My := D_X10_isThere) dX10_unpick_3 ml_T_149 ce_X10_isThere ly_0 (by decide) cl_10 (by decide) (Nat.le_refl _) (Nat.le_refl _) (by decide) (sumL rfl) (w_X10_isThere hx (rgL rfl) r1 h) (fun z1 hz1 h => ?_)
  refine V_if_ne 12 dX10_unpick_6 (by decide) hz1 ⟨fun c2 => ?_, fun c2 => ?_⟩
  · have h := h.1 c2
    refine V_aload_0 dX10_unpick_12 ?_
    refine V_gR dX10_unpick_13 fl_T_19 ly_0 (by decide) wr_0_1 ?_
    refine V_iload_1 dX10_unpick_16 ?_
    refine V_cVI1 (My := D_X0_sewnTo) dX10_unpick_17 ml_T_184 ce_X0_sewnTo ly_3 (by decide) cl_0 (by decide) (Nat.le_refl _) (Nat.le_refl _) (by decide) (sumL rfl) (w_X0_sewnTo hx r1 h) (fun z3 hz3 h => ?_)
    refine V_istore_2 dX10_unpick_20 rfl rfl ?_
    refine V_iload_2 dX10_unpick_21 ?_
    refine V_iconst dX10_unpick_22 ?_
    refine V_icmp_ne 29 dX10_unpick_23 (by decide) hz3 (rgL rfl) ⟨fun c4 => ?_, fun c4 => ?_⟩
    · have h := h.1 c4
      refine V_aload_0 dX10_unpick_29 ?_
      refine V_gR dX10_unpick_30 fl_T_26 ly_0 (by decide) wr_0_2 ?_
      refine V_aload_0 dX10_unpick_33 ?_
      refine V_gR dX10_unpick_34 fl_T_19 ly_0 (by decide) wr_0_1 ?_
      refine V_gR dX10_unpick_37 fl_T_100 ly_3 (by decide) wr_3_0 ?_
      refine V_cVU1 (My := D_X7_remember) dX10_unpick_40 ml_T_191 ce_X7_remember ly_10 (by decide) cl_7 (by decide) (Nat.le_refl _) (Nat.le_refl _) (by decide) (sumL rfl) (w_X7_remember hx h) (fun x5 hx5 h => ?_)
      refine V_aload_0 dX10_unpick_43 ?_
      refine V_gR dX10_unpick_44 fl_T_19 ly_0 (by decide) wr_0_1 ?_
      refine V_gR dX10_unpick_47 fl_T_100 ly_3 (by decide) wr_3_0 ?_
      refine V_gR dX10_unpick_50 fl_T_167 ly_4 (by decide) (r := 5) (clo_w0 (k := 4) rfl) ?_
      refine V_iload_2 dX10_unpick_53 ?_
      refine V_bipush dX10_unpick_54 (by decide) ?_
      obtain ⟨g6, h⟩ := h
      refine V_sIe dX10_unpick_56 ly_5 (by decide) (by decide) g6 (fun x7 ex7 => ?_)
      have h := h x7 ex7
      have hx7 := hx5.upE (rgL rfl) ex7
      refine V_aload_0 dX10_unpick_57 ?_
      refine V_gR dX10_unpick_58 fl_T_19 ly_0 (by decide) wr_0_1 ?_
      refine V_gR dX10_unpick_61 fl_T_100 ly_3 (by decide) wr_3_0 ?_
      refine V_dup dX10_unpick_64 rfl ?_
      refine V_gI dX10_unpick_65 fl_T_206 ly_4 (by decide) (clo_w2 (k := 4) rfl) ?_
      refine V_iconst dX10_unpick_68 ?_
      refine V_iload_2 dX10_unpick_69 ?_
      refine V_ishl dX10_unpick_70 ?_
      refine V_ior dX10_unpick_71 ?_
      refine V_pIe dX10_unpick_72 fl_T_206 ly_4 (by decide) (clo_w2 (k := 4) rfl) (fun x8 ex8 => ?_)
      have h := h x8 ex8
      have hx8 := hx7.upE (Rg.of _) ex8
      refine V_iload_2 dX10_unpick_75 ?_
      exact V_ireturn dX10_unpick_76 rfl ⟨_, _, rfl, hx8, rfl, hz3, h⟩
    · have h := h.2 c4
      refine V_ldc dX10_unpick_26 kc_T_190 ?_
      exact V_ireturn dX10_unpick_28 rfl ⟨_, _, rfl, hx, rfl, (rgL rfl), h⟩
  · have h := h.2 c2
    refine V_ldc dX10_unpick_9 kc_T_153 ?_
    exact V_ireturn dX10_unpick_11 rfl ⟨_, _, rfl, hx, rfl, (rgL rfl), h⟩
def M_X11_unpick (x : XM) (v1 : Int) (q : Int → XM → Prop) : Prop :=
  M_X11_isNeed x v1  (fun z1 => ((¬ z1 = 0 → M_X11_sewnTo x v1  (fun z3 => ((¬ z3 = (-1) → M_X11_know x  (fun x5 => (0 ≤ z3 ∧ z3 < 31) ∧ (∀ x7 : XM, x7 = uX x5 93 (z3.toNat) 0 → (0 ≤ (12 + z3) ∧ (12 + z3) < 31) ∧ (∀ x9 : XM, x9 = uX x7 93 (((12 + z3)).toNat) 1 → q z3 x9)))) ∧ (z3 = (-1) → q (-1000000003) x)))) ∧ (z1 = 0 → q (-1000000001) x)))
set_option maxRecDepth 100000 in
theorem w_X11_unpick {Γ : GE} {x : XM} (hx : WX x) {v1 : Int} {q : Int → XM → Prop} (r1 : Rg v1) (h : M_X11_unpick x v1 q) : CV Γ 2 NF NF D_X11_unpick [.ref (gB Γ + 83), vI v1] (mk Γ x) (QE Γ q) := by
  refine CV.of rfl (cat_all rfl) (Nat.le_of_ble_eq_true rfl) ?_
  show V Γ 2 NF NF D_X11_unpick (QE Γ q) 0 [.ref (gB Γ + 83), vI v1, uu] [] NF (mk Γ x)
  unfold M_X11_unpick at h
  refine V_aload_0 dX11_unpick_0 ?_
  refine V_iload_1 dX11_unpick_1 ?_
  refine V_cVI1 (My := D_X11_isNeed) dX11_unpick_2 ml_R_215 ce_X11_isNeed ly_83 (by decide) cl_11 (by decide) (Nat.le_refl _) (Nat.le_refl _) (by decide) (sumL rfl) (w_X11_isNeed hx r1 h) (fun z1 hz1 h => ?_)
  refine V_if_ne 11 dX11_unpick_5 (by decide) hz1 ⟨fun c2 => ?_, fun c2 => ?_⟩
  · have h := h.1 c2
    refine V_aload_0 dX11_unpick_11 ?_
    refine V_iload_1 dX11_unpick_12 ?_
    refine V_cVI1 (My := D_X11_sewnTo) dX11_unpick_13 ml_R_218 ce_X11_sewnTo ly_83 (by decide) cl_11 (by decide) (Nat.le_refl _) (Nat.le_refl _) (by decide) (sumL rfl) (w_X11_sewnTo hx r1 h) (fun z3 hz3 h => ?_)
    refine V_istore_2 dX11_unpick_16 rfl rfl ?_
    refine V_iload_2 dX11_unpick_17 ?_
    refine V_iconst dX11_unpick_18 ?_
    refine V_icmp_ne 25 dX11_unpick_19 (by decide) hz3 (rgL rfl) ⟨fun c4 => ?_, fun c4 => ?_⟩
    · have h := h.1 c4
      refine V_aload_0 dX11_unpick_25 ?_
      refine V_cVU0 (My := D_X11_know) dX11_unpick_26 ml_R_225 ce_X11_know ly_83 (by decide) cl_11 (by decide) (Nat.le_refl _) (Nat.le_refl _) (by decide) (sumL rfl) (w_X11_know hx h) (fun x5 hx5 h => ?_)
      refine V_aload_0 dX11_unpick_29 ?_
      refine V_gR dX11_unpick_30 fl_R_38 ly_83 (by decide) wr_83_25 ?_
      refine V_iload_2 dX11_unpick_33 ?_
      refine V_iconst dX11_unpick_34 ?_
      obtain ⟨g6, h⟩ := h
      refine V_sIe dX11_unpick_35 ly_93 (by decide) (by decide) g6 (fun x7 ex7 => ?_)
      have h := h x7 ex7
      have hx7 := hx5.upE (rgL rfl) ex7
      refine V_aload_0 dX11_unpick_36 ?_
      refine V_gR dX11_unpick_37 fl_R_38 ly_83 (by decide) wr_83_25 ?_
      refine V_bipush dX11_unpick_40 (by decide) ?_
      refine V_iload_2 dX11_unpick_42 ?_
      refine V_iadd dX11_unpick_43 ?_
      refine V_iconst dX11_unpick_44 ?_
      obtain ⟨g8, h⟩ := h
      refine V_sIe dX11_unpick_45 ly_93 (by decide) (by decide) g8 (fun x9 ex9 => ?_)
      have h := h x9 ex9
      have hx9 := hx7.upE (rgL rfl) ex9
      refine V_iload_2 dX11_unpick_46 ?_
      exact V_ireturn dX11_unpick_47 rfl ⟨_, _, rfl, hx9, rfl, hz3, h⟩
    · have h := h.2 c4
      refine V_ldc dX11_unpick_22 kc_R_224 ?_
      exact V_ireturn dX11_unpick_24 rfl ⟨_, _, rfl, hx, rfl, (rgL rfl), h⟩
  · have h := h.2 c2
    refine V_ldc dX11_unpick_8 kc_R_205 ?_
    exact V_ireturn dX11_unpick_10 rfl ⟨_, _, rfl, hx, rfl, (rgL rfl), h⟩
def M_X10_pull (x : XM) (v1 : Int) (q : Int → XM → Prop) : Prop :=
  M_X10_isThere x 1 v1  (fun z1 => ((¬ z1 = 0 → M_X0_isSewn x v1  (fun z3 => ((¬ z3 = 0 → q (-1000000003) x) ∧ (z3 = 0 → M_X10_has x (x 4 2) v1  (fun z5 => ((¬ z5 = 0 → M_X7_remember x  (fun x7 => ∀ x8 : XM, x8 = uX x7 4 2 (jand (x7 4 2) (jxor (jshl 1 v1) (-1))) → M_X0_holds x8 v1  (fun z9 => q z9 x8))) ∧ (z5 = 0 → q (-1000000003) x))))))) ∧ (z1 = 0 → q (-1000000001) x)))
set_option maxRecDepth 100000 in
theorem w_X10_pull {Γ : GE} {x : XM} (hx : WX x) {v1 : Int} {q : Int → XM → Prop} (r1 : Rg v1) (h : M_X10_pull x v1 q) : CV Γ 3 NF NF D_X10_pull [.ref (gB Γ + 0), vI v1] (mk Γ x) (QE Γ q) := by
  refine CV.of rfl (cat_all rfl) (Nat.le_of_ble_eq_true rfl) ?_
  show V Γ 3 NF NF D_X10_pull (QE Γ q) 0 [.ref (gB Γ + 0), vI v1] [] NF (mk Γ x)
  unfold M_X10_pull at h
  refine V_aload_0 dX10_pull_0 ?_
  refine V_iconst dX10_pull_1 ?_
  refine V_iload_1 dX10_pull_2 ?_
  refine V_cVI2 (My := D_X10_isThere) dX10_pull_3 ml_T_149 ce_X10_isThere ly_0 (by decide) cl_10 (by decide) (Nat.le_refl _) (Nat.le_refl _) (by decide) (sumL rfl) (w_X10_isThere hx (rgL rfl) r1 h) (fun z1 hz1 h => ?_)
  refine V_if_ne 12 dX10_pull_6 (by decide) hz1 ⟨fun c2 => ?_, fun c2 => ?_⟩
  · have h := h.1 c2
    refine V_aload_0 dX10_pull_12 ?_
    refine V_gR dX10_pull_13 fl_T_19 ly_0 (by decide) wr_0_1 ?_
    refine V_iload_1 dX10_pull_16 ?_
    refine V_cVI1 (My := D_X0_isSewn) dX10_pull_17 ml_T_163 ce_X0_isSewn ly_3 (by decide) cl_0 (by decide) (Nat.le_refl _) (Nat.le_refl _) (by decide) (sumL rfl) (w_X0_isSewn hx r1 h) (fun z3 hz3 h => ?_)
    refine V_if_ne 40 dX10_pull_20 (by decide) hz3 ⟨fun c4 => ?_, fun c4 => ?_⟩
    · have h := h.1 c4
      refine V_ldc dX10_pull_40 kc_T_190 ?_
      exact V_ireturn dX10_pull_42 rfl ⟨_, _, rfl, hx, rfl, (rgL rfl), h⟩
    · have h := h.2 c4
      refine V_aload_0 dX10_pull_23 ?_
      refine V_gR dX10_pull_24 fl_T_19 ly_0 (by decide) wr_0_1 ?_
      refine V_gR dX10_pull_27 fl_T_100 ly_3 (by decide) wr_3_0 ?_
      refine V_gI dX10_pull_30 fl_T_206 ly_4 (by decide) (clo_w2 (k := 4) rfl) ?_
      refine V_iload_1 dX10_pull_33 ?_
      refine V_cSI2 (My := D_X10_has) dX10_pull_34 ml_T_195 ce_X10_has (Nat.le_refl _) (Nat.le_refl _) (by decide) (sumL rfl) (w_X10_has hx (hx _ _) r1 h) (fun z5 hz5 h => ?_)
      refine V_if_ne 43 dX10_pull_37 (by decide) hz5 ⟨fun c6 => ?_, fun c6 => ?_⟩
      · have h := h.1 c6
        refine V_aload_0 dX10_pull_43 ?_
        refine V_gR dX10_pull_44 fl_T_26 ly_0 (by decide) wr_0_2 ?_
        refine V_aload_0 dX10_pull_47 ?_
        refine V_gR dX10_pull_48 fl_T_19 ly_0 (by decide) wr_0_1 ?_
        refine V_gR dX10_pull_51 fl_T_100 ly_3 (by decide) wr_3_0 ?_
        refine V_cVU1 (My := D_X7_remember) dX10_pull_54 ml_T_191 ce_X7_remember ly_10 (by decide) cl_7 (by decide) (Nat.le_refl _) (Nat.le_refl _) (by decide) (sumL rfl) (w_X7_remember hx h) (fun x7 hx7 h => ?_)
        refine V_aload_0 dX10_pull_57 ?_
        refine V_gR dX10_pull_58 fl_T_19 ly_0 (by decide) wr_0_1 ?_
        refine V_gR dX10_pull_61 fl_T_100 ly_3 (by decide) wr_3_0 ?_
        refine V_dup dX10_pull_64 rfl ?_
        refine V_gI dX10_pull_65 fl_T_206 ly_4 (by decide) (clo_w2 (k := 4) rfl) ?_
        refine V_iconst dX10_pull_68 ?_
        refine V_iload_1 dX10_pull_69 ?_
        refine V_ishl dX10_pull_70 ?_
        refine V_iconst dX10_pull_71 ?_
        refine V_ixor dX10_pull_72 ?_
        refine V_iand dX10_pull_73 ?_
        refine V_pIe dX10_pull_74 fl_T_206 ly_4 (by decide) (clo_w2 (k := 4) rfl) (fun x8 ex8 => ?_)
        have h := h x8 ex8
        have hx8 := hx7.upE (Rg.of _) ex8
        refine V_aload_0 dX10_pull_77 ?_
        refine V_gR dX10_pull_78 fl_T_19 ly_0 (by decide) wr_0_1 ?_
        refine V_iload_1 dX10_pull_81 ?_
        refine V_cVI1 (My := D_X0_holds) dX10_pull_82 ml_T_157 ce_X0_holds ly_3 (by decide) cl_0 (by decide) (Nat.le_refl _) (Nat.le_refl _) (by decide) (sumL rfl) (w_X0_holds hx8 r1 h) (fun z9 hz9 h => ?_)
        exact V_ireturn dX10_pull_85 rfl ⟨_, _, rfl, hx8, rfl, hz9, h⟩
      · have h := h.2 c6
        refine V_ldc dX10_pull_40 kc_T_190 ?_
        exact V_ireturn dX10_pull_42 rfl ⟨_, _, rfl, hx, rfl, (rgL rfl), h⟩
  · have h := h.2 c2
    refine V_ldc dX10_pull_9 kc_T_153 ?_
    exact V_ireturn dX10_pull_11 rfl ⟨_, _, rfl, hx, rfl, (rgL rfl), h⟩
def M_X11_pull (x : XM) (v1 : Int) (q : Int → XM → Prop) : Prop :=
  M_X11_isButton x v1  (fun z1 => ((¬ z1 = 0 → (0 ≤ v1 ∧ v1 < 31) ∧ ((8 ≤ (x 93 (v1.toNat)) → q (-1000000003) x) ∧ (¬ (8 ≤ (x 93 (v1.toNat))) → (0 ≤ (12 + v1) ∧ (12 + v1) < 31) ∧ ((¬ (x 93 (((12 + v1)).toNat)) = 0 → M_X11_know x  (fun x7 => (0 ≤ (12 + v1) ∧ (12 + v1) < 31) ∧ (∀ x9 : XM, x9 = uX x7 93 (((12 + v1)).toNat) 0 → M_X11_holds x9 v1  (fun z10 => q z10 x9)))) ∧ ((x 93 (((12 + v1)).toNat)) = 0 → q (-1000000003) x))))) ∧ (z1 = 0 → q (-1000000001) x)))
set_option maxRecDepth 100000 in
theorem w_X11_pull {Γ : GE} {x : XM} (hx : WX x) {v1 : Int} {q : Int → XM → Prop} (r1 : Rg v1) (h : M_X11_pull x v1 q) : CV Γ 2 NF NF D_X11_pull [.ref (gB Γ + 83), vI v1] (mk Γ x) (QE Γ q) := by
  refine CV.of rfl (cat_all rfl) (Nat.le_of_ble_eq_true rfl) ?_
  show V Γ 2 NF NF D_X11_pull (QE Γ q) 0 [.ref (gB Γ + 83), vI v1] [] NF (mk Γ x)
  unfold M_X11_pull at h
  refine V_aload_0 dX11_pull_0 ?_
  refine V_iload_1 dX11_pull_1 ?_
  refine V_cVI1 (My := D_X11_isButton) dX11_pull_2 ml_R_201 ce_X11_isButton ly_83 (by decide) cl_11 (by decide) (Nat.le_refl _) (Nat.le_refl _) (by decide) (sumL rfl) (w_X11_isButton hx r1 h) (fun z1 hz1 h => ?_)
  refine V_if_ne 11 dX11_pull_5 (by decide) hz1 ⟨fun c2 => ?_, fun c2 => ?_⟩
  · have h := h.1 c2
    refine V_aload_0 dX11_pull_11 ?_
    refine V_gR dX11_pull_12 fl_R_38 ly_83 (by decide) wr_83_25 ?_
    refine V_iload_1 dX11_pull_15 ?_
    obtain ⟨g3, h⟩ := h
    refine V_aI dX11_pull_16 ly_93 (by decide) (by decide) g3 ?_
    refine V_bipush dX11_pull_17 (by decide) ?_
    refine V_icmp_ge 34 dX11_pull_19 (by decide) (hx _ _) (rgL rfl) ⟨fun c4 => ?_, fun c4 => ?_⟩
    · have h := h.1 c4
      refine V_ldc dX11_pull_34 kc_R_224 ?_
      exact V_ireturn dX11_pull_36 rfl ⟨_, _, rfl, hx, rfl, (rgL rfl), h⟩
    · have h := h.2 c4
      refine V_aload_0 dX11_pull_22 ?_
      refine V_gR dX11_pull_23 fl_R_38 ly_83 (by decide) wr_83_25 ?_
      refine V_bipush dX11_pull_26 (by decide) ?_
      refine V_iload_1 dX11_pull_28 ?_
      refine V_iadd dX11_pull_29 ?_
      obtain ⟨g5, h⟩ := h
      refine V_aI dX11_pull_30 ly_93 (by decide) (by decide) g5 ?_
      refine V_if_ne 37 dX11_pull_31 (by decide) (hx _ _) ⟨fun c6 => ?_, fun c6 => ?_⟩
      · have h := h.1 c6
        refine V_aload_0 dX11_pull_37 ?_
        refine V_cVU0 (My := D_X11_know) dX11_pull_38 ml_R_225 ce_X11_know ly_83 (by decide) cl_11 (by decide) (Nat.le_refl _) (Nat.le_refl _) (by decide) (sumL rfl) (w_X11_know hx h) (fun x7 hx7 h => ?_)
        refine V_aload_0 dX11_pull_41 ?_
        refine V_gR dX11_pull_42 fl_R_38 ly_83 (by decide) wr_83_25 ?_
        refine V_bipush dX11_pull_45 (by decide) ?_
        refine V_iload_1 dX11_pull_47 ?_
        refine V_iadd dX11_pull_48 ?_
        refine V_iconst dX11_pull_49 ?_
        obtain ⟨g8, h⟩ := h
        refine V_sIe dX11_pull_50 ly_93 (by decide) (by decide) g8 (fun x9 ex9 => ?_)
        have h := h x9 ex9
        have hx9 := hx7.upE (rgL rfl) ex9
        refine V_aload_0 dX11_pull_51 ?_
        refine V_iload_1 dX11_pull_52 ?_
        refine V_cVI1 (My := D_X11_holds) dX11_pull_53 ml_R_180 ce_X11_holds ly_83 (by decide) cl_11 (by decide) (Nat.le_refl _) (Nat.le_refl _) (by decide) (sumL rfl) (w_X11_holds hx9 r1 h) (fun z10 hz10 h => ?_)
        exact V_ireturn dX11_pull_56 rfl ⟨_, _, rfl, hx9, rfl, hz10, h⟩
      · have h := h.2 c6
        refine V_ldc dX11_pull_34 kc_R_224 ?_
        exact V_ireturn dX11_pull_36 rfl ⟨_, _, rfl, hx, rfl, (rgL rfl), h⟩
  · have h := h.2 c2
    refine V_ldc dX11_pull_8 kc_R_205 ?_
    exact V_ireturn dX11_pull_10 rfl ⟨_, _, rfl, hx, rfl, (rgL rfl), h⟩
def M_X10_up (x : XM) (v1 : Int) (q : Int → XM → Prop) : Prop :=
  M_X10_isThere x 2 v1  (fun z1 => ((¬ z1 = 0 → M_X0_placeOfRule x v1  (fun z3 => ((0 < z3 → M_X7_remember x  (fun x5 => (0 ≤ (z3 - 1) ∧ (z3 - 1) < 6) ∧ (0 ≤ z3 ∧ z3 < 6) ∧ (∀ x8 : XM, x8 = uX x5 6 (z3.toNat) (x5 6 (((z3 - 1)).toNat)) → (0 ≤ (z3 - 1) ∧ (z3 - 1) < 6) ∧ (∀ x10 : XM, x10 = uX x8 6 (((z3 - 1)).toNat) v1 → (Rg (z3 - 1)) ∧ q (z3 - 1) x10)))) ∧ (¬ (0 < z3) → q (-1000000003) x)))) ∧ (z1 = 0 → q (-1000000001) x)))
set_option maxRecDepth 100000 in
theorem w_X10_up {Γ : GE} {x : XM} (hx : WX x) {v1 : Int} {q : Int → XM → Prop} (r1 : Rg v1) (h : M_X10_up x v1 q) : CV Γ 3 NF NF D_X10_up [.ref (gB Γ + 0), vI v1] (mk Γ x) (QE Γ q) := by
  refine CV.of rfl (cat_all rfl) (Nat.le_of_ble_eq_true rfl) ?_
  show V Γ 3 NF NF D_X10_up (QE Γ q) 0 [.ref (gB Γ + 0), vI v1, uu, uu] [] NF (mk Γ x)
  unfold M_X10_up at h
  refine V_aload_0 dX10_up_0 ?_
  refine V_iconst dX10_up_1 ?_
  refine V_iload_1 dX10_up_2 ?_
  refine V_cVI2 (My := D_X10_isThere) dX10_up_3 ml_T_149 ce_X10_isThere ly_0 (by decide) cl_10 (by decide) (Nat.le_refl _) (Nat.le_refl _) (by decide) (sumL rfl) (w_X10_isThere hx (rgL rfl) r1 h) (fun z1 hz1 h => ?_)
  refine V_if_ne 12 dX10_up_6 (by decide) hz1 ⟨fun c2 => ?_, fun c2 => ?_⟩
  · have h := h.1 c2
    refine V_aload_0 dX10_up_12 ?_
    refine V_gR dX10_up_13 fl_T_19 ly_0 (by decide) wr_0_1 ?_
    refine V_iload_1 dX10_up_16 ?_
    refine V_cVI1 (My := D_X0_placeOfRule) dX10_up_17 ml_T_178 ce_X0_placeOfRule ly_3 (by decide) cl_0 (by decide) (Nat.le_refl _) (Nat.le_refl _) (by decide) (sumL rfl) (w_X0_placeOfRule hx r1 h) (fun z3 hz3 h => ?_)
    refine V_istore_2 dX10_up_20 rfl rfl ?_
    refine V_iload_2 dX10_up_21 ?_
    refine V_if_gt 28 dX10_up_22 (by decide) hz3 ⟨fun c4 => ?_, fun c4 => ?_⟩
    · have h := h.1 c4
      refine V_aload_0 dX10_up_28 ?_
      refine V_gR dX10_up_29 fl_T_26 ly_0 (by decide) wr_0_2 ?_
      refine V_aload_0 dX10_up_32 ?_
      refine V_gR dX10_up_33 fl_T_19 ly_0 (by decide) wr_0_1 ?_
      refine V_gR dX10_up_36 fl_T_100 ly_3 (by decide) wr_3_0 ?_
      refine V_cVU1 (My := D_X7_remember) dX10_up_39 ml_T_191 ce_X7_remember ly_10 (by decide) cl_7 (by decide) (Nat.le_refl _) (Nat.le_refl _) (by decide) (sumL rfl) (w_X7_remember hx h) (fun x5 hx5 h => ?_)
      refine V_aload_0 dX10_up_42 ?_
      refine V_gR dX10_up_43 fl_T_19 ly_0 (by decide) wr_0_1 ?_
      refine V_gR dX10_up_46 fl_T_100 ly_3 (by decide) wr_3_0 ?_
      refine V_gR dX10_up_49 fl_T_209 ly_4 (by decide) (r := 6) (clo_w1 (k := 4) rfl) ?_
      refine V_astore_3 dX10_up_52 rfl rfl ?_
      refine V_aload_3 dX10_up_53 ?_
      refine V_iload_2 dX10_up_54 ?_
      refine V_aload_3 dX10_up_55 ?_
      refine V_iload_2 dX10_up_56 ?_
      refine V_iconst dX10_up_57 ?_
      refine V_isub dX10_up_58 ?_
      obtain ⟨g6, h⟩ := h
      refine V_aI dX10_up_59 ly_6 (by decide) (by decide) g6 ?_
      obtain ⟨g7, h⟩ := h
      refine V_sIe dX10_up_60 ly_6 (by decide) (by decide) g7 (fun x8 ex8 => ?_)
      have h := h x8 ex8
      have hx8 := hx5.upE (hx5 _ _) ex8
      refine V_aload_3 dX10_up_61 ?_
      refine V_iload_2 dX10_up_62 ?_
      refine V_iconst dX10_up_63 ?_
      refine V_isub dX10_up_64 ?_
      refine V_iload_1 dX10_up_65 ?_
      obtain ⟨g9, h⟩ := h
      refine V_sIe dX10_up_66 ly_6 (by decide) (by decide) g9 (fun x10 ex10 => ?_)
      have h := h x10 ex10
      have hx10 := hx8.upE r1 ex10
      refine V_iload_2 dX10_up_67 ?_
      refine V_iconst dX10_up_68 ?_
      refine V_isub dX10_up_69 ?_
      obtain ⟨g11, h⟩ := h
      exact V_ireturn dX10_up_70 rfl ⟨_, _, rfl, hx10, rfl, g11, h⟩
    · have h := h.2 c4
      refine V_ldc dX10_up_25 kc_T_190 ?_
      exact V_ireturn dX10_up_27 rfl ⟨_, _, rfl, hx, rfl, (rgL rfl), h⟩
  · have h := h.2 c2
    refine V_ldc dX10_up_9 kc_T_153 ?_
    exact V_ireturn dX10_up_11 rfl ⟨_, _, rfl, hx, rfl, (rgL rfl), h⟩
def M_X11_up (x : XM) (v1 : Int) (q : Int → XM → Prop) : Prop :=
  M_X11_isRule x v1  (fun z1 => ((¬ z1 = 0 → M_X11_placeOf x v1  (fun z3 => ((¬ z3 = 0 → M_X11_know x  (fun x5 => (0 ≤ ((24 + z3) - 1) ∧ ((24 + z3) - 1) < 31) ∧ (0 ≤ (24 + z3) ∧ (24 + z3) < 31) ∧ (∀ x8 : XM, x8 = uX x5 93 (((24 + z3)).toNat) (x5 93 ((((24 + z3) - 1)).toNat)) → (0 ≤ ((24 + z3) - 1) ∧ ((24 + z3) - 1) < 31) ∧ (∀ x10 : XM, x10 = uX x8 93 ((((24 + z3) - 1)).toNat) v1 → (Rg (z3 - 1)) ∧ q (z3 - 1) x10)))) ∧ (z3 = 0 → q (-1000000003) x)))) ∧ (z1 = 0 → q (-1000000001) x)))
set_option maxRecDepth 100000 in
theorem w_X11_up {Γ : GE} {x : XM} (hx : WX x) {v1 : Int} {q : Int → XM → Prop} (r1 : Rg v1) (h : M_X11_up x v1 q) : CV Γ 2 NF NF D_X11_up [.ref (gB Γ + 83), vI v1] (mk Γ x) (QE Γ q) := by
  refine CV.of rfl (cat_all rfl) (Nat.le_of_ble_eq_true rfl) ?_
  show V Γ 2 NF NF D_X11_up (QE Γ q) 0 [.ref (gB Γ + 83), vI v1, uu] [] NF (mk Γ x)
  unfold M_X11_up at h
  refine V_aload_0 dX11_up_0 ?_
  refine V_iload_1 dX11_up_1 ?_
  refine V_cVI1 (My := D_X11_isRule) dX11_up_2 ml_R_206 ce_X11_isRule ly_83 (by decide) cl_11 (by decide) (Nat.le_refl _) (Nat.le_refl _) (by decide) (sumL rfl) (w_X11_isRule hx r1 h) (fun z1 hz1 h => ?_)
  refine V_if_ne 11 dX11_up_5 (by decide) hz1 ⟨fun c2 => ?_, fun c2 => ?_⟩
  · have h := h.1 c2
    refine V_aload_0 dX11_up_11 ?_
    refine V_iload_1 dX11_up_12 ?_
    refine V_cVI1 (My := D_X11_placeOf) dX11_up_13 ml_R_209 ce_X11_placeOf ly_83 (by decide) cl_11 (by decide) (Nat.le_refl _) (Nat.le_refl _) (by decide) (sumL rfl) (w_X11_placeOf hx r1 h) (fun z3 hz3 h => ?_)
    refine V_istore_2 dX11_up_16 rfl rfl ?_
    refine V_iload_2 dX11_up_17 ?_
    refine V_if_ne 24 dX11_up_18 (by decide) hz3 ⟨fun c4 => ?_, fun c4 => ?_⟩
    · have h := h.1 c4
      refine V_aload_0 dX11_up_24 ?_
      refine V_cVU0 (My := D_X11_know) dX11_up_25 ml_R_225 ce_X11_know ly_83 (by decide) cl_11 (by decide) (Nat.le_refl _) (Nat.le_refl _) (by decide) (sumL rfl) (w_X11_know hx h) (fun x5 hx5 h => ?_)
      refine V_aload_0 dX11_up_28 ?_
      refine V_gR dX11_up_29 fl_R_38 ly_83 (by decide) wr_83_25 ?_
      refine V_bipush dX11_up_32 (by decide) ?_
      refine V_iload_2 dX11_up_34 ?_
      refine V_iadd dX11_up_35 ?_
      refine V_aload_0 dX11_up_36 ?_
      refine V_gR dX11_up_37 fl_R_38 ly_83 (by decide) wr_83_25 ?_
      refine V_bipush dX11_up_40 (by decide) ?_
      refine V_iload_2 dX11_up_42 ?_
      refine V_iadd dX11_up_43 ?_
      refine V_iconst dX11_up_44 ?_
      refine V_isub dX11_up_45 ?_
      obtain ⟨g6, h⟩ := h
      refine V_aI dX11_up_46 ly_93 (by decide) (by decide) g6 ?_
      obtain ⟨g7, h⟩ := h
      refine V_sIe dX11_up_47 ly_93 (by decide) (by decide) g7 (fun x8 ex8 => ?_)
      have h := h x8 ex8
      have hx8 := hx5.upE (hx5 _ _) ex8
      refine V_aload_0 dX11_up_48 ?_
      refine V_gR dX11_up_49 fl_R_38 ly_83 (by decide) wr_83_25 ?_
      refine V_bipush dX11_up_52 (by decide) ?_
      refine V_iload_2 dX11_up_54 ?_
      refine V_iadd dX11_up_55 ?_
      refine V_iconst dX11_up_56 ?_
      refine V_isub dX11_up_57 ?_
      refine V_iload_1 dX11_up_58 ?_
      obtain ⟨g9, h⟩ := h
      refine V_sIe dX11_up_59 ly_93 (by decide) (by decide) g9 (fun x10 ex10 => ?_)
      have h := h x10 ex10
      have hx10 := hx8.upE r1 ex10
      refine V_iload_2 dX11_up_60 ?_
      refine V_iconst dX11_up_61 ?_
      refine V_isub dX11_up_62 ?_
      obtain ⟨g11, h⟩ := h
      exact V_ireturn dX11_up_63 rfl ⟨_, _, rfl, hx10, rfl, g11, h⟩
    · have h := h.2 c4
      refine V_ldc dX11_up_21 kc_R_224 ?_
      exact V_ireturn dX11_up_23 rfl ⟨_, _, rfl, hx, rfl, (rgL rfl), h⟩
  · have h := h.2 c2
    refine V_ldc dX11_up_8 kc_R_205 ?_
    exact V_ireturn dX11_up_10 rfl ⟨_, _, rfl, hx, rfl, (rgL rfl), h⟩
def M_X3_next (x : XM) (v1 : Int) (q : Int → XM → Prop) : Prop :=
  ∀ x1 : XM, x1 = uX x 63 0 (jl2i ((((ji2l (x 63 0)) * 1103515245) + 12345) - (((ji2l (x 63 0)) * 1103515245) + 12345) / 2147483648 * 2147483648)) → ((v1 ≤ 0 → q 0 x1) ∧ (¬ (v1 ≤ 0) → (0 ≤ (x1 63 0)) ∧ (0 ≤ ((x1 63 0) / 65536)) ∧ (0 < v1) ∧ q (((x1 63 0) / 65536) % v1) x1))
set_option maxRecDepth 100000 in
theorem w_X3_next {Γ : GE} {x : XM} (hx : WX x) {v1 : Int} {q : Int → XM → Prop} (r1 : Rg v1) (h : M_X3_next x v1 q) : CV Γ 0 NF NF D_X3_next [.ref (gB Γ + 63), vI v1] (mk Γ x) (QE Γ q) := by
  refine CV.of rfl (cat_all rfl) (Nat.le_of_ble_eq_true rfl) ?_
  show V Γ 0 NF NF D_X3_next (QE Γ q) 0 [.ref (gB Γ + 63), vI v1] [] NF (mk Γ x)
  unfold M_X3_next at h
  refine V_aload_0 dX3_next_0 ?_
  refine V_aload_0 dX3_next_1 ?_
  refine V_gI dX3_next_2 fl_Draws_7 ly_63 (by decide) wn_63_0 ?_
  refine V_i2l dX3_next_5 ?_
  refine V_ldc2 dX3_next_6 kl_Draws_13 ?_
  refine V_lmul dX3_next_9 ?_
  refine V_ldc2 dX3_next_10 kl_Draws_15 ?_
  refine V_ladd dX3_next_13 ?_
  refine V_ldc2 dX3_next_14 kl_Draws_17 ?_
  refine V_lrem dX3_next_17 (by decide) ?_
  refine V_l2i dX3_next_18 ?_
  refine V_pIe dX3_next_19 fl_Draws_7 ly_63 (by decide) wn_63_0 (fun x1 ex1 => ?_)
  have h := h x1 ex1
  have hx1 := hx.upE (Rg.of _) ex1
  refine V_iload_1 dX3_next_22 ?_
  refine V_if_le 38 dX3_next_23 (by decide) r1 ⟨fun c2 => ?_, fun c2 => ?_⟩
  · have h := h.1 c2
    refine V_iconst dX3_next_38 ?_
    exact V_ireturn dX3_next_39 rfl ⟨_, _, rfl, hx1, rfl, (rgL rfl), h⟩
  · have h := h.2 c2
    refine V_aload_0 dX3_next_26 ?_
    refine V_gI dX3_next_27 fl_Draws_7 ly_63 (by decide) wn_63_0 ?_
    refine V_ldc dX3_next_30 kc_Draws_19 ?_
    obtain ⟨g3, h⟩ := h
    refine V_idiv dX3_next_32 (hx1 _ _) (rgL rfl) g3 (lt0 rfl) ?_
    refine V_iload_1 dX3_next_33 ?_
    obtain ⟨g4, h⟩ := h
    obtain ⟨g5, h⟩ := h
    refine V_irem dX3_next_34 (rgDiv (hx1 _ _) g3 (lt0 rfl)) r1 g4 g5 ?_
    refine V_goto 39 dX3_next_35 (by decide) ?_
    exact V_ireturn dX3_next_39 rfl ⟨_, _, rfl, hx1, rfl, (rgRem r1 g5), h⟩
def M_X10_driftOnce (x : XM) (q : XM → Prop) : Prop :=
  M_X0_count x 1  (fun z1 => M_X3_next x z1  (fun z2 x3 => M_X3_next x3 100  (fun z4 x5 => (0 ≤ z2 ∧ z2 < 12) ∧ ((¬ (x5 5 (z2.toNat)) = 6 → M_X0_isSewn x5 z2  (fun z8 => ((¬ z8 = 0 → q x5) ∧ (z8 = 0 → ((z4 < 90 → q x5) ∧ (¬ (z4 < 90) → (0 ≤ z2 ∧ z2 < 12) ∧ (∀ x12 : XM, x12 = uX x5 5 (z2.toNat) 6 → q x12))))))) ∧ ((x5 5 (z2.toNat)) = 6 → M_X0_errs x5  (fun z13 => ((z13 ≤ z4 → M_X0_sortAlone x5 z2  (fun x15 => q x15)) ∧ (¬ (z13 ≤ z4) → M_X3_next x5 6  (fun z16 x17 => (0 ≤ z2 ∧ z2 < 12) ∧ (∀ x19 : XM, x19 = uX x17 5 (z2.toNat) z16 → q x19))))))))))
set_option maxRecDepth 100000 in
theorem w_X10_driftOnce {Γ : GE} {x : XM} (hx : WX x) {q : XM → Prop} (h : M_X10_driftOnce x q) : CV Γ 5 NF NF D_X10_driftOnce [.ref (gB Γ + 0)] (mk Γ x) (QU Γ q) := by
  refine CV.of rfl (cat_all rfl) (Nat.le_of_ble_eq_true rfl) ?_
  show V Γ 5 NF NF D_X10_driftOnce (QU Γ q) 0 [.ref (gB Γ + 0), uu, uu] [] NF (mk Γ x)
  unfold M_X10_driftOnce at h
  refine V_aload_0 dX10_driftOnce_0 ?_
  refine V_gR dX10_driftOnce_1 fl_T_40 ly_0 (by decide) wr_0_4 ?_
  refine V_aload_0 dX10_driftOnce_4 ?_
  refine V_gR dX10_driftOnce_5 fl_T_19 ly_0 (by decide) wr_0_1 ?_
  refine V_iconst dX10_driftOnce_8 ?_
  refine V_cVI1 (My := D_X0_count) dX10_driftOnce_9 ml_T_116 ce_X0_count ly_3 (by decide) cl_0 (by decide) (Nat.le_refl _) (Nat.le_refl _) (by decide) (sumL rfl) (w_X0_count hx (rgL rfl) h) (fun z1 hz1 h => ?_)
  refine V_cVE1 (My := D_X3_next) dX10_driftOnce_12 ml_T_281 ce_X3_next ly_63 (by decide) cl_3 (by decide) (Nat.le_refl _) (Nat.le_refl _) (by decide) (sumL rfl) (w_X3_next hx hz1 h) (fun z2 x3 hx3 hz2 h => ?_)
  refine V_istore_1 dX10_driftOnce_15 rfl rfl ?_
  refine V_aload_0 dX10_driftOnce_16 ?_
  refine V_gR dX10_driftOnce_17 fl_T_40 ly_0 (by decide) wr_0_4 ?_
  refine V_bipush dX10_driftOnce_20 (by decide) ?_
  refine V_cVE1 (My := D_X3_next) dX10_driftOnce_22 ml_T_281 ce_X3_next ly_63 (by decide) cl_3 (by decide) (Nat.le_refl _) (Nat.le_refl _) (by decide) (sumL rfl) (w_X3_next hx3 (rgL rfl) h) (fun z4 x5 hx5 hz4 h => ?_)
  refine V_istore_2 dX10_driftOnce_25 rfl rfl ?_
  refine V_aload_0 dX10_driftOnce_26 ?_
  refine V_gR dX10_driftOnce_27 fl_T_19 ly_0 (by decide) wr_0_1 ?_
  refine V_gR dX10_driftOnce_30 fl_T_100 ly_3 (by decide) wr_3_0 ?_
  refine V_gR dX10_driftOnce_33 fl_T_167 ly_4 (by decide) (r := 5) (clo_w0 (k := 4) rfl) ?_
  refine V_iload_1 dX10_driftOnce_36 ?_
  obtain ⟨g6, h⟩ := h
  refine V_aI dX10_driftOnce_37 ly_5 (by decide) (by decide) g6 ?_
  refine V_bipush dX10_driftOnce_38 (by decide) ?_
  refine V_icmp_ne 89 dX10_driftOnce_40 (by decide) (hx5 _ _) (rgL rfl) ⟨fun c7 => ?_, fun c7 => ?_⟩
  · have h := h.1 c7
    refine V_aload_0 dX10_driftOnce_89 ?_
    refine V_gR dX10_driftOnce_90 fl_T_19 ly_0 (by decide) wr_0_1 ?_
    refine V_iload_1 dX10_driftOnce_93 ?_
    refine V_cVI1 (My := D_X0_isSewn) dX10_driftOnce_94 ml_T_163 ce_X0_isSewn ly_3 (by decide) cl_0 (by decide) (Nat.le_refl _) (Nat.le_refl _) (by decide) (sumL rfl) (w_X0_isSewn hx5 hz2 h) (fun z8 hz8 h => ?_)
    refine V_if_ne 120 dX10_driftOnce_97 (by decide) hz8 ⟨fun c9 => ?_, fun c9 => ?_⟩
    · have h := h.1 c9
      exact V_vreturn dX10_driftOnce_120 rfl ⟨_, rfl, hx5, rfl, h⟩
    · have h := h.2 c9
      refine V_iload_2 dX10_driftOnce_100 ?_
      refine V_bipush dX10_driftOnce_101 (by decide) ?_
      refine V_icmp_lt 120 dX10_driftOnce_103 (by decide) hz4 (rgL rfl) ⟨fun c10 => ?_, fun c10 => ?_⟩
      · have h := h.1 c10
        exact V_vreturn dX10_driftOnce_120 rfl ⟨_, rfl, hx5, rfl, h⟩
      · have h := h.2 c10
        refine V_aload_0 dX10_driftOnce_106 ?_
        refine V_gR dX10_driftOnce_107 fl_T_19 ly_0 (by decide) wr_0_1 ?_
        refine V_gR dX10_driftOnce_110 fl_T_100 ly_3 (by decide) wr_3_0 ?_
        refine V_gR dX10_driftOnce_113 fl_T_167 ly_4 (by decide) (r := 5) (clo_w0 (k := 4) rfl) ?_
        refine V_iload_1 dX10_driftOnce_116 ?_
        refine V_bipush dX10_driftOnce_117 (by decide) ?_
        obtain ⟨g11, h⟩ := h
        refine V_sIe dX10_driftOnce_119 ly_5 (by decide) (by decide) g11 (fun x12 ex12 => ?_)
        have h := h x12 ex12
        have hx12 := hx5.upE (rgL rfl) ex12
        exact V_vreturn dX10_driftOnce_120 rfl ⟨_, rfl, hx12, rfl, h⟩
  · have h := h.2 c7
    refine V_iload_2 dX10_driftOnce_43 ?_
    refine V_aload_0 dX10_driftOnce_44 ?_
    refine V_gR dX10_driftOnce_45 fl_T_19 ly_0 (by decide) wr_0_1 ?_
    refine V_cVI0 (My := D_X0_errs) dX10_driftOnce_48 ml_T_120 ce_X0_errs ly_3 (by decide) cl_0 (by decide) (Nat.le_refl _) (Nat.le_refl _) (by decide) (sumL rfl) (w_X0_errs hx5 h) (fun z13 hz13 h => ?_)
    refine V_icmp_ge 78 dX10_driftOnce_51 (by decide) hz4 hz13 ⟨fun c14 => ?_, fun c14 => ?_⟩
    · have h := h.1 c14
      refine V_aload_0 dX10_driftOnce_78 ?_
      refine V_gR dX10_driftOnce_79 fl_T_19 ly_0 (by decide) wr_0_1 ?_
      refine V_iload_1 dX10_driftOnce_82 ?_
      refine V_cVU1 (My := D_X0_sortAlone) dX10_driftOnce_83 ml_T_198 ce_X0_sortAlone ly_3 (by decide) cl_0 (by decide) (Nat.le_refl _) (Nat.le_refl _) (by decide) (sumL rfl) (w_X0_sortAlone hx5 hz2 h) (fun x15 hx15 h => ?_)
      refine V_goto 120 dX10_driftOnce_86 (by decide) ?_
      exact V_vreturn dX10_driftOnce_120 rfl ⟨_, rfl, hx15, rfl, h⟩
    · have h := h.2 c14
      refine V_aload_0 dX10_driftOnce_54 ?_
      refine V_gR dX10_driftOnce_55 fl_T_19 ly_0 (by decide) wr_0_1 ?_
      refine V_gR dX10_driftOnce_58 fl_T_100 ly_3 (by decide) wr_3_0 ?_
      refine V_gR dX10_driftOnce_61 fl_T_167 ly_4 (by decide) (r := 5) (clo_w0 (k := 4) rfl) ?_
      refine V_iload_1 dX10_driftOnce_64 ?_
      refine V_aload_0 dX10_driftOnce_65 ?_
      refine V_gR dX10_driftOnce_66 fl_T_40 ly_0 (by decide) wr_0_4 ?_
      refine V_bipush dX10_driftOnce_69 (by decide) ?_
      refine V_cVE1 (My := D_X3_next) dX10_driftOnce_71 ml_T_281 ce_X3_next ly_63 (by decide) cl_3 (by decide) (Nat.le_refl _) (Nat.le_refl _) (by decide) (sumL rfl) (w_X3_next hx5 (rgL rfl) h) (fun z16 x17 hx17 hz16 h => ?_)
      obtain ⟨g18, h⟩ := h
      refine V_sIe dX10_driftOnce_74 ly_5 (by decide) (by decide) g18 (fun x19 ex19 => ?_)
      have h := h x19 ex19
      have hx19 := hx17.upE hz16 ex19
      refine V_goto 120 dX10_driftOnce_75 (by decide) ?_
      exact V_vreturn dX10_driftOnce_120 rfl ⟨_, rfl, hx19, rfl, h⟩
def M_X10_drift_55 (q : Int → XM → Prop) : Nat → XM → Int → Int → Prop
  | 0, _, _, _ => False
  | n + 1, x, v1, v2 =>
  ((v1 ≤ v2 → q (x 4 3) x) ∧ (¬ (v1 ≤ v2) → M_X10_driftOnce x  (fun x9 => (Rg (v2 + 1)) ∧ (M_X10_drift_55 q n) x9 v1 (v2 + 1))))
def M_X10_drift (x : XM) (v1 : Int) (q : Int → XM → Prop) : Prop :=
  ((v1 < 1 → q (-1000000002) x) ∧ (¬ (v1 < 1) → ((v1 ≤ 60 → M_X0_count x 0  (fun z3 => ((¬ z3 = 0 → M_X7_remember x  (fun x5 => M_X0_count x5 1  (fun z6 => ((z6 ≤ 0 → q (x5 4 3) x5) ∧ (¬ (z6 ≤ 0) → ∃ m : Nat, M_X10_drift_55 q m x5 v1 0))))) ∧ (z3 = 0 → q (-1000000003) x)))) ∧ (¬ (v1 ≤ 60) → q (-1000000002) x))))
set_option maxRecDepth 100000 in
theorem w_X10_drift_55 {Γ : GE} {q : Int → XM → Prop} : ∀ (n : Nat) (x : XM) (v1 : Int) (v2 : Int) , WX x → Rg v1 → Rg v2 → M_X10_drift_55 q n x v1 v2 → V Γ 6 NF NF D_X10_drift (QE Γ q) 55 [.ref (gB Γ + 0), vI v1, vI v2] [] NF (mk Γ x) := by
  intro n
  induction n with
  | zero =>
    intro x v1 v2 hx r1 r2 h
    rw [M_X10_drift_55.eq_1] at h
    exact h.elim
  | succ n ih =>
    intro x v1 v2 hx r1 r2 h
    rw [M_X10_drift_55.eq_2] at h
    refine V_iload_2 dX10_drift_55 ?_
    refine V_iload_1 dX10_drift_56 ?_
    refine V_icmp_ge 70 dX10_drift_57 (by decide) r2 r1 ⟨fun c8 => ?_, fun c8 => ?_⟩
    · have h := h.1 c8
      refine V_aload_0 dX10_drift_70 ?_
      refine V_gR dX10_drift_71 fl_T_19 ly_0 (by decide) wr_0_1 ?_
      refine V_gR dX10_drift_74 fl_T_100 ly_3 (by decide) wr_3_0 ?_
      refine V_gI dX10_drift_77 fl_T_130 ly_4 (by decide) (clo_w3 (k := 4) rfl) ?_
      exact V_ireturn dX10_drift_80 rfl ⟨_, _, rfl, hx, rfl, (hx _ _), h⟩
    · have h := h.2 c8
      refine V_aload_0 dX10_drift_60 ?_
      refine V_cVU0 (My := D_X10_driftOnce) dX10_drift_61 ml_T_212 ce_X10_driftOnce ly_0 (by decide) cl_10 (by decide) (Nat.le_refl _) (Nat.le_refl _) (by decide) (sumL rfl) (w_X10_driftOnce hx h) (fun x9 hx9 h => ?_)
      refine V_iinc_2 (a2 := uu) dX10_drift_64 rfl ?_
      refine V_goto 55 dX10_drift_67 (by decide) ?_
      obtain ⟨g10, h⟩ := h
      exact ih _ _ _ hx9 r1 g10 h
set_option maxRecDepth 100000 in
theorem w_X10_drift {Γ : GE} {x : XM} (hx : WX x) {v1 : Int} {q : Int → XM → Prop} (r1 : Rg v1) (h : M_X10_drift x v1 q) : CV Γ 6 NF NF D_X10_drift [.ref (gB Γ + 0), vI v1] (mk Γ x) (QE Γ q) := by
  refine CV.of rfl (cat_all rfl) (Nat.le_of_ble_eq_true rfl) ?_
  show V Γ 6 NF NF D_X10_drift (QE Γ q) 0 [.ref (gB Γ + 0), vI v1, uu] [] NF (mk Γ x)
  unfold M_X10_drift at h
  refine V_iload_1 dX10_drift_0 ?_
  refine V_iconst dX10_drift_1 ?_
  refine V_icmp_lt 11 dX10_drift_2 (by decide) r1 (rgL rfl) ⟨fun c1 => ?_, fun c1 => ?_⟩
  · have h := h.1 c1
    refine V_ldc dX10_drift_11 kc_T_78 ?_
    exact V_ireturn dX10_drift_13 rfl ⟨_, _, rfl, hx, rfl, (rgL rfl), h⟩
  · have h := h.2 c1
    refine V_iload_1 dX10_drift_5 ?_
    refine V_bipush dX10_drift_6 (by decide) ?_
    refine V_icmp_le 14 dX10_drift_8 (by decide) r1 (rgL rfl) ⟨fun c2 => ?_, fun c2 => ?_⟩
    · have h := h.1 c2
      refine V_aload_0 dX10_drift_14 ?_
      refine V_gR dX10_drift_15 fl_T_19 ly_0 (by decide) wr_0_1 ?_
      refine V_iconst dX10_drift_18 ?_
      refine V_cVI1 (My := D_X0_count) dX10_drift_19 ml_T_116 ce_X0_count ly_3 (by decide) cl_0 (by decide) (Nat.le_refl _) (Nat.le_refl _) (by decide) (sumL rfl) (w_X0_count hx (rgL rfl) h) (fun z3 hz3 h => ?_)
      refine V_if_ne 28 dX10_drift_22 (by decide) hz3 ⟨fun c4 => ?_, fun c4 => ?_⟩
      · have h := h.1 c4
        refine V_aload_0 dX10_drift_28 ?_
        refine V_gR dX10_drift_29 fl_T_26 ly_0 (by decide) wr_0_2 ?_
        refine V_aload_0 dX10_drift_32 ?_
        refine V_gR dX10_drift_33 fl_T_19 ly_0 (by decide) wr_0_1 ?_
        refine V_gR dX10_drift_36 fl_T_100 ly_3 (by decide) wr_3_0 ?_
        refine V_cVU1 (My := D_X7_remember) dX10_drift_39 ml_T_191 ce_X7_remember ly_10 (by decide) cl_7 (by decide) (Nat.le_refl _) (Nat.le_refl _) (by decide) (sumL rfl) (w_X7_remember hx h) (fun x5 hx5 h => ?_)
        refine V_aload_0 dX10_drift_42 ?_
        refine V_gR dX10_drift_43 fl_T_19 ly_0 (by decide) wr_0_1 ?_
        refine V_iconst dX10_drift_46 ?_
        refine V_cVI1 (My := D_X0_count) dX10_drift_47 ml_T_116 ce_X0_count ly_3 (by decide) cl_0 (by decide) (Nat.le_refl _) (Nat.le_refl _) (by decide) (sumL rfl) (w_X0_count hx5 (rgL rfl) h) (fun z6 hz6 h => ?_)
        refine V_if_le 70 dX10_drift_50 (by decide) hz6 ⟨fun c7 => ?_, fun c7 => ?_⟩
        · have h := h.1 c7
          refine V_aload_0 dX10_drift_70 ?_
          refine V_gR dX10_drift_71 fl_T_19 ly_0 (by decide) wr_0_1 ?_
          refine V_gR dX10_drift_74 fl_T_100 ly_3 (by decide) wr_3_0 ?_
          refine V_gI dX10_drift_77 fl_T_130 ly_4 (by decide) (clo_w3 (k := 4) rfl) ?_
          exact V_ireturn dX10_drift_80 rfl ⟨_, _, rfl, hx5, rfl, (hx5 _ _), h⟩
        · have h := h.2 c7
          refine V_iconst dX10_drift_53 ?_
          refine V_istore_2 dX10_drift_54 rfl rfl ?_
          obtain ⟨m9, h⟩ := h
          exact w_X10_drift_55 m9 _ _ _ hx5 r1 (rgL rfl) h
      · have h := h.2 c4
        refine V_ldc dX10_drift_25 kc_T_190 ?_
        exact V_ireturn dX10_drift_27 rfl ⟨_, _, rfl, hx, rfl, (rgL rfl), h⟩
    · have h := h.2 c2
      refine V_ldc dX10_drift_11 kc_T_78 ?_
      exact V_ireturn dX10_drift_13 rfl ⟨_, _, rfl, hx, rfl, (rgL rfl), h⟩
def M_X11_draw (x : XM) (v1 : Int) (q : Int → XM → Prop) : Prop :=
  ∀ x1 : XM, x1 = uX x 83 31 (jl2i ((((ji2l (x 83 31)) * 1103515245) + 12345) - (((ji2l (x 83 31)) * 1103515245) + 12345) / 2147483648 * 2147483648)) → (0 ≤ (x1 83 31)) ∧ (0 ≤ ((x1 83 31) / 65536)) ∧ (0 < v1) ∧ q (((x1 83 31) / 65536) % v1) x1
set_option maxRecDepth 100000 in
theorem w_X11_draw {Γ : GE} {x : XM} (hx : WX x) {v1 : Int} {q : Int → XM → Prop} (r1 : Rg v1) (h : M_X11_draw x v1 q) : CV Γ 0 NF NF D_X11_draw [.ref (gB Γ + 83), vI v1] (mk Γ x) (QE Γ q) := by
  refine CV.of rfl (cat_all rfl) (Nat.le_of_ble_eq_true rfl) ?_
  show V Γ 0 NF NF D_X11_draw (QE Γ q) 0 [.ref (gB Γ + 83), vI v1] [] NF (mk Γ x)
  unfold M_X11_draw at h
  refine V_aload_0 dX11_draw_0 ?_
  refine V_aload_0 dX11_draw_1 ?_
  refine V_gI dX11_draw_2 fl_R_236 ly_83 (by decide) wn_83_31 ?_
  refine V_i2l dX11_draw_5 ?_
  refine V_ldc2 dX11_draw_6 kl_R_239 ?_
  refine V_lmul dX11_draw_9 ?_
  refine V_ldc2 dX11_draw_10 kl_R_241 ?_
  refine V_ladd dX11_draw_13 ?_
  refine V_ldc2 dX11_draw_14 kl_R_243 ?_
  refine V_lrem dX11_draw_17 (by decide) ?_
  refine V_l2i dX11_draw_18 ?_
  refine V_pIe dX11_draw_19 fl_R_236 ly_83 (by decide) wn_83_31 (fun x1 ex1 => ?_)
  have h := h x1 ex1
  have hx1 := hx.upE (Rg.of _) ex1
  refine V_aload_0 dX11_draw_22 ?_
  refine V_gI dX11_draw_23 fl_R_236 ly_83 (by decide) wn_83_31 ?_
  refine V_ldc dX11_draw_26 kc_R_245 ?_
  obtain ⟨g2, h⟩ := h
  refine V_idiv dX11_draw_28 (hx1 _ _) (rgL rfl) g2 (lt0 rfl) ?_
  refine V_iload_1 dX11_draw_29 ?_
  obtain ⟨g3, h⟩ := h
  obtain ⟨g4, h⟩ := h
  refine V_irem dX11_draw_30 (rgDiv (hx1 _ _) g2 (lt0 rfl)) r1 g3 g4 ?_
  exact V_ireturn dX11_draw_31 rfl ⟨_, _, rfl, hx1, rfl, (rgRem r1 g4), h⟩
def M_X11_drift_29 (q : Int → XM → Prop) : Nat → XM → Int → Int → Prop
  | 0, _, _, _ => False
  | n + 1, x, v1, v2 =>
  ((v1 ≤ v2 → q (x 93 30) x) ∧ (¬ (v1 ≤ v2) → (((x 83 3) ≤ 0 → q (x 93 30) x) ∧ (¬ ((x 83 3) ≤ 0) → M_X11_draw x (x 83 3)  (fun z7 x8 => M_X11_draw x8 100  (fun z9 x10 => (0 ≤ z7 ∧ z7 < 31) ∧ ((¬ (x10 93 (z7.toNat)) = 0 → (0 ≤ z7 ∧ z7 < 31) ∧ ((8 ≤ (x10 93 (z7.toNat)) → (Rg (v2 + 1)) ∧ (M_X11_drift_29 q n) x10 v1 (v2 + 1)) ∧ (¬ (8 ≤ (x10 93 (z7.toNat))) → ((z9 < 90 → (Rg (v2 + 1)) ∧ (M_X11_drift_29 q n) x10 v1 (v2 + 1)) ∧ (¬ (z9 < 90) → (0 ≤ z7 ∧ z7 < 31) ∧ (∀ x19 : XM, x19 = uX x10 93 (z7.toNat) 0 → (Rg (v2 + 1)) ∧ (M_X11_drift_29 q n) x19 v1 (v2 + 1))))))) ∧ ((x10 93 (z7.toNat)) = 0 → (((x10 83 2) ≤ z9 → M_X11_sortOne x10 z7  (fun x22 => (Rg (v2 + 1)) ∧ (M_X11_drift_29 q n) x22 v1 (v2 + 1))) ∧ (¬ ((x10 83 2) ≤ z9) → M_X11_draw x10 6  (fun z24 x25 => (Rg (1 + z24)) ∧ (0 ≤ z7 ∧ z7 < 31) ∧ (∀ x28 : XM, x28 = uX x25 93 (z7.toNat) (1 + z24) → (Rg (v2 + 1)) ∧ (M_X11_drift_29 q n) x28 v1 (v2 + 1)))))))))))))
def M_X11_drift (x : XM) (v1 : Int) (q : Int → XM → Prop) : Prop :=
  M_X11_in x v1 1 60  (fun z1 => ((¬ z1 = 0 → ((¬ (x 83 20) = 0 → M_X11_know x  (fun x4 => ∃ m : Nat, M_X11_drift_29 q m x4 v1 0)) ∧ ((x 83 20) = 0 → q (-1000000003) x))) ∧ (z1 = 0 → q (-1000000002) x)))
set_option maxRecDepth 100000 in
theorem w_X11_drift_29 {Γ : GE} {q : Int → XM → Prop} : ∀ (n : Nat) (x : XM) (v1 : Int) (v2 : Int) , WX x → Rg v1 → Rg v2 → M_X11_drift_29 q n x v1 v2 → V Γ 5 NF NF D_X11_drift (QE Γ q) 29 [.ref (gB Γ + 83), vI v1, vI v2, uu, uu] [] NF (mk Γ x) := by
  intro n
  induction n with
  | zero =>
    intro x v1 v2 hx r1 r2 h
    rw [M_X11_drift_29.eq_1] at h
    exact h.elim
  | succ n ih =>
    intro x v1 v2 hx r1 r2 h
    rw [M_X11_drift_29.eq_2] at h
    refine V_iload_2 dX11_drift_29 ?_
    refine V_iload_1 dX11_drift_30 ?_
    refine V_icmp_ge 132 dX11_drift_31 (by decide) r2 r1 ⟨fun c5 => ?_, fun c5 => ?_⟩
    · have h := h.1 c5
      refine V_aload_0 dX11_drift_132 ?_
      refine V_gR dX11_drift_133 fl_R_38 ly_83 (by decide) wr_83_25 ?_
      refine V_bipush dX11_drift_136 (by decide) ?_
      refine V_aI dX11_drift_138 ly_93 (by decide) (by decide) (ibd rfl) ?_
      exact V_ireturn dX11_drift_139 rfl ⟨_, _, rfl, hx, rfl, (hx _ _), h⟩
    · have h := h.2 c5
      refine V_aload_0 dX11_drift_34 ?_
      refine V_gI dX11_drift_35 fl_R_145 ly_83 (by decide) wn_83_3 ?_
      refine V_if_le 132 dX11_drift_38 (by decide) (hx _ _) ⟨fun c6 => ?_, fun c6 => ?_⟩
      · have h := h.1 c6
        refine V_aload_0 dX11_drift_132 ?_
        refine V_gR dX11_drift_133 fl_R_38 ly_83 (by decide) wr_83_25 ?_
        refine V_bipush dX11_drift_136 (by decide) ?_
        refine V_aI dX11_drift_138 ly_93 (by decide) (by decide) (ibd rfl) ?_
        exact V_ireturn dX11_drift_139 rfl ⟨_, _, rfl, hx, rfl, (hx _ _), h⟩
      · have h := h.2 c6
        refine V_aload_0 dX11_drift_41 ?_
        refine V_aload_0 dX11_drift_42 ?_
        refine V_gI dX11_drift_43 fl_R_145 ly_83 (by decide) wn_83_3 ?_
        refine V_cVE1 (My := D_X11_draw) dX11_drift_46 ml_R_246 ce_X11_draw ly_83 (by decide) cl_11 (by decide) (Nat.le_refl _) (Nat.le_refl _) (by decide) (sumL rfl) (w_X11_draw hx (hx _ _) h) (fun z7 x8 hx8 hz7 h => ?_)
        refine V_istore_3 dX11_drift_49 rfl rfl ?_
        refine V_aload_0 dX11_drift_50 ?_
        refine V_bipush dX11_drift_51 (by decide) ?_
        refine V_cVE1 (My := D_X11_draw) dX11_drift_53 ml_R_246 ce_X11_draw ly_83 (by decide) cl_11 (by decide) (Nat.le_refl _) (Nat.le_refl _) (by decide) (sumL rfl) (w_X11_draw hx8 (rgL rfl) h) (fun z9 x10 hx10 hz9 h => ?_)
        refine V_istore_4 dX11_drift_56 rfl rfl ?_
        refine V_aload_0 dX11_drift_58 ?_
        refine V_gR dX11_drift_59 fl_R_38 ly_83 (by decide) wr_83_25 ?_
        refine V_iload_3 dX11_drift_62 ?_
        obtain ⟨g11, h⟩ := h
        refine V_aI dX11_drift_63 ly_93 (by decide) (by decide) g11 ?_
        refine V_if_ne 101 dX11_drift_64 (by decide) (hx10 _ _) ⟨fun c12 => ?_, fun c12 => ?_⟩
        · have h := h.1 c12
          refine V_aload_0 dX11_drift_101 ?_
          refine V_gR dX11_drift_102 fl_R_38 ly_83 (by decide) wr_83_25 ?_
          refine V_iload_3 dX11_drift_105 ?_
          obtain ⟨g13, h⟩ := h
          refine V_aI dX11_drift_106 ly_93 (by decide) (by decide) g13 ?_
          refine V_bipush dX11_drift_107 (by decide) ?_
          refine V_icmp_ge 126 dX11_drift_109 (by decide) (hx10 _ _) (rgL rfl) ⟨fun c14 => ?_, fun c14 => ?_⟩
          · have h := h.1 c14
            refine V_iinc_2 (a2 := uu) dX11_drift_126 rfl ?_
            refine V_goto 29 dX11_drift_129 (by decide) ?_
            obtain ⟨g15, h⟩ := h
            refine V_fg_3 ?_
            refine V_fg_4 ?_
            exact ih _ _ _ hx10 r1 g15 h
          · have h := h.2 c14
            refine V_iload_4 dX11_drift_112 ?_
            refine V_bipush dX11_drift_114 (by decide) ?_
            refine V_icmp_lt 126 dX11_drift_116 (by decide) hz9 (rgL rfl) ⟨fun c16 => ?_, fun c16 => ?_⟩
            · have h := h.1 c16
              refine V_iinc_2 (a2 := uu) dX11_drift_126 rfl ?_
              refine V_goto 29 dX11_drift_129 (by decide) ?_
              obtain ⟨g17, h⟩ := h
              refine V_fg_3 ?_
              refine V_fg_4 ?_
              exact ih _ _ _ hx10 r1 g17 h
            · have h := h.2 c16
              refine V_aload_0 dX11_drift_119 ?_
              refine V_gR dX11_drift_120 fl_R_38 ly_83 (by decide) wr_83_25 ?_
              refine V_iload_3 dX11_drift_123 ?_
              refine V_iconst dX11_drift_124 ?_
              obtain ⟨g18, h⟩ := h
              refine V_sIe dX11_drift_125 ly_93 (by decide) (by decide) g18 (fun x19 ex19 => ?_)
              have h := h x19 ex19
              have hx19 := hx10.upE (rgL rfl) ex19
              refine V_iinc_2 (a2 := uu) dX11_drift_126 rfl ?_
              refine V_goto 29 dX11_drift_129 (by decide) ?_
              obtain ⟨g20, h⟩ := h
              refine V_fg_3 ?_
              refine V_fg_4 ?_
              exact ih _ _ _ hx19 r1 g20 h
        · have h := h.2 c12
          refine V_iload_4 dX11_drift_67 ?_
          refine V_aload_0 dX11_drift_69 ?_
          refine V_gI dX11_drift_70 fl_R_142 ly_83 (by decide) wn_83_2 ?_
          refine V_icmp_ge 93 dX11_drift_73 (by decide) hz9 (hx10 _ _) ⟨fun c21 => ?_, fun c21 => ?_⟩
          · have h := h.1 c21
            refine V_aload_0 dX11_drift_93 ?_
            refine V_iload_3 dX11_drift_94 ?_
            refine V_cVU1 (My := D_X11_sortOne) dX11_drift_95 ml_R_229 ce_X11_sortOne ly_83 (by decide) cl_11 (by decide) (Nat.le_refl _) (Nat.le_refl _) (by decide) (sumL rfl) (w_X11_sortOne hx10 hz7 h) (fun x22 hx22 h => ?_)
            refine V_goto 126 dX11_drift_98 (by decide) ?_
            refine V_iinc_2 (a2 := uu) dX11_drift_126 rfl ?_
            refine V_goto 29 dX11_drift_129 (by decide) ?_
            obtain ⟨g23, h⟩ := h
            refine V_fg_3 ?_
            refine V_fg_4 ?_
            exact ih _ _ _ hx22 r1 g23 h
          · have h := h.2 c21
            refine V_aload_0 dX11_drift_76 ?_
            refine V_gR dX11_drift_77 fl_R_38 ly_83 (by decide) wr_83_25 ?_
            refine V_iload_3 dX11_drift_80 ?_
            refine V_iconst dX11_drift_81 ?_
            refine V_aload_0 dX11_drift_82 ?_
            refine V_bipush dX11_drift_83 (by decide) ?_
            refine V_cVE1 (My := D_X11_draw) dX11_drift_85 ml_R_246 ce_X11_draw ly_83 (by decide) cl_11 (by decide) (Nat.le_refl _) (Nat.le_refl _) (by decide) (sumL rfl) (w_X11_draw hx10 (rgL rfl) h) (fun z24 x25 hx25 hz24 h => ?_)
            refine V_iadd dX11_drift_88 ?_
            obtain ⟨g26, h⟩ := h
            obtain ⟨g27, h⟩ := h
            refine V_sIe dX11_drift_89 ly_93 (by decide) (by decide) g27 (fun x28 ex28 => ?_)
            have h := h x28 ex28
            have hx28 := hx25.upE g26 ex28
            refine V_goto 126 dX11_drift_90 (by decide) ?_
            refine V_iinc_2 (a2 := uu) dX11_drift_126 rfl ?_
            refine V_goto 29 dX11_drift_129 (by decide) ?_
            obtain ⟨g29, h⟩ := h
            refine V_fg_3 ?_
            refine V_fg_4 ?_
            exact ih _ _ _ hx28 r1 g29 h
set_option maxRecDepth 100000 in
theorem w_X11_drift {Γ : GE} {x : XM} (hx : WX x) {v1 : Int} {q : Int → XM → Prop} (r1 : Rg v1) (h : M_X11_drift x v1 q) : CV Γ 5 NF NF D_X11_drift [.ref (gB Γ + 83), vI v1] (mk Γ x) (QE Γ q) := by
  refine CV.of rfl (cat_all rfl) (Nat.le_of_ble_eq_true rfl) ?_
  show V Γ 5 NF NF D_X11_drift (QE Γ q) 0 [.ref (gB Γ + 83), vI v1, uu, uu, uu] [] NF (mk Γ x)
  unfold M_X11_drift at h
  refine V_iload_1 dX11_drift_0 ?_
  refine V_iconst dX11_drift_1 ?_
  refine V_bipush dX11_drift_2 (by decide) ?_
  refine V_cSI3 (My := D_X11_in) dX11_drift_4 ml_R_73 ce_X11_in (Nat.le_refl _) (Nat.le_refl _) (by decide) (sumL rfl) (w_X11_in hx r1 (rgL rfl) (rgL rfl) h) (fun z1 hz1 h => ?_)
  refine V_if_ne 13 dX11_drift_7 (by decide) hz1 ⟨fun c2 => ?_, fun c2 => ?_⟩
  · have h := h.1 c2
    refine V_aload_0 dX11_drift_13 ?_
    refine V_gI dX11_drift_14 fl_R_138 ly_83 (by decide) wn_83_20 ?_
    refine V_if_ne 23 dX11_drift_17 (by decide) (hx _ _) ⟨fun c3 => ?_, fun c3 => ?_⟩
    · have h := h.1 c3
      refine V_aload_0 dX11_drift_23 ?_
      refine V_cVU0 (My := D_X11_know) dX11_drift_24 ml_R_225 ce_X11_know ly_83 (by decide) cl_11 (by decide) (Nat.le_refl _) (Nat.le_refl _) (by decide) (sumL rfl) (w_X11_know hx h) (fun x4 hx4 h => ?_)
      refine V_iconst dX11_drift_27 ?_
      refine V_istore_2 dX11_drift_28 rfl rfl ?_
      obtain ⟨m9, h⟩ := h
      exact w_X11_drift_29 m9 _ _ _ hx4 r1 (rgL rfl) h
    · have h := h.2 c3
      refine V_ldc dX11_drift_20 kc_R_224 ?_
      exact V_ireturn dX11_drift_22 rfl ⟨_, _, rfl, hx, rfl, (rgL rfl), h⟩
  · have h := h.2 c2
    refine V_ldc dX11_drift_10 kc_R_77 ?_
    exact V_ireturn dX11_drift_12 rfl ⟨_, _, rfl, hx, rfl, (rgL rfl), h⟩
def M_X7_restore (x : XM) (q : XM → Prop) : Prop :=
  (Rg (((x 10 1) + 16) - 1)) ∧ (0 ≤ (((x 10 1) + 16) - 1)) ∧ (∀ x3 : XM, x3 = uX x 10 1 ((((x 10 1) + 16) - 1) % 16) → (Rg ((x3 10 2) - 1)) ∧ (∀ x5 : XM, x5 = uX x3 10 2 ((x3 10 2) - 1) → (0 ≤ (x5 10 1) ∧ (x5 10 1) < 16) ∧ M_X2_copyFrom 4 (12 + 3 * ((x5 10 1)).toNat) x5  (fun x7 => q x7)))
set_option maxRecDepth 100000 in
theorem w_X7_restore {Γ : GE} {x : XM} (hx : WX x) {q : XM → Prop} (h : M_X7_restore x q) : CV Γ 2 NF NF D_X7_restore [.ref (gB Γ + 10), .ref (gB Γ + 4)] (mk Γ x) (QU Γ q) := by
  refine CV.of rfl (cat_all rfl) (Nat.le_of_ble_eq_true rfl) ?_
  show V Γ 2 NF NF D_X7_restore (QU Γ q) 0 [.ref (gB Γ + 10), .ref (gB Γ + 4)] [] NF (mk Γ x)
  unfold M_X7_restore at h
  refine V_aload_0 dX7_restore_0 ?_
  refine V_aload_0 dX7_restore_1 ?_
  refine V_gI dX7_restore_2 fl_Past_22 ly_10 (by decide) wn_10_1 ?_
  refine V_bipush dX7_restore_5 (by decide) ?_
  refine V_iadd dX7_restore_7 ?_
  refine V_iconst dX7_restore_8 ?_
  refine V_isub dX7_restore_9 ?_
  refine V_bipush dX7_restore_10 (by decide) ?_
  obtain ⟨g1, h⟩ := h
  obtain ⟨g2, h⟩ := h
  refine V_irem dX7_restore_12 g1 (rgL rfl) g2 (lt0 rfl) ?_
  refine V_pIe dX7_restore_13 fl_Past_22 ly_10 (by decide) wn_10_1 (fun x3 ex3 => ?_)
  have h := h x3 ex3
  have hx3 := hx.upE (rgRem (rgL rfl) (lt0 rfl)) ex3
  refine V_aload_0 dX7_restore_16 ?_
  refine V_dup dX7_restore_17 rfl ?_
  refine V_gI dX7_restore_18 fl_Past_18 ly_10 (by decide) wn_10_2 ?_
  refine V_iconst dX7_restore_21 ?_
  refine V_isub dX7_restore_22 ?_
  obtain ⟨g4, h⟩ := h
  refine V_pIe dX7_restore_23 fl_Past_18 ly_10 (by decide) wn_10_2 (fun x5 ex5 => ?_)
  have h := h x5 ex5
  have hx5 := hx3.upE g4 ex5
  refine V_aload_1 dX7_restore_26 ?_
  refine V_aload_0 dX7_restore_27 ?_
  refine V_gR dX7_restore_28 fl_Past_11 ly_10 (by decide) wr_10_0 ?_
  refine V_aload_0 dX7_restore_31 ?_
  refine V_gI dX7_restore_32 fl_Past_22 ly_10 (by decide) wn_10_1 ?_
  obtain ⟨g6, h⟩ := h
  refine V_aC dX7_restore_35 g6 ?_
  refine V_cVU1 (My := D_X2_copyFrom) dX7_restore_36 ml_Past_25 ce_X2_copyFrom ly_4 (by decide) cl_2 (by decide) (Nat.le_refl _) (Nat.le_refl _) (by decide) (sumL rfl) (w_X2_copyFrom (show (lay 4).1 = 2 from rfl) (ring_k g6.1 g6.2) hx5 h) (fun x7 hx7 h => ?_)
  exact V_vreturn dX7_restore_39 rfl ⟨_, rfl, hx7, rfl, h⟩
def M_X10_undo (x : XM) (q : Int → XM → Prop) : Prop :=
  ((¬ (x 10 2) = 0 → M_X7_restore x  (fun x2 => q (x2 10 2) x2)) ∧ ((x 10 2) = 0 → q (-1000000003) x))
set_option maxRecDepth 100000 in
theorem w_X10_undo {Γ : GE} {x : XM} (hx : WX x) {q : Int → XM → Prop} (h : M_X10_undo x q) : CV Γ 3 NF NF D_X10_undo [.ref (gB Γ + 0)] (mk Γ x) (QE Γ q) := by
  refine CV.of rfl (cat_all rfl) (Nat.le_of_ble_eq_true rfl) ?_
  show V Γ 3 NF NF D_X10_undo (QE Γ q) 0 [.ref (gB Γ + 0)] [] NF (mk Γ x)
  unfold M_X10_undo at h
  refine V_aload_0 dX10_undo_0 ?_
  refine V_gR dX10_undo_1 fl_T_26 ly_0 (by decide) wr_0_2 ?_
  refine V_gI dX10_undo_4 fl_T_148 ly_10 (by decide) wn_10_2 ?_
  refine V_if_ne 13 dX10_undo_7 (by decide) (hx _ _) ⟨fun c1 => ?_, fun c1 => ?_⟩
  · have h := h.1 c1
    refine V_aload_0 dX10_undo_13 ?_
    refine V_gR dX10_undo_14 fl_T_26 ly_0 (by decide) wr_0_2 ?_
    refine V_aload_0 dX10_undo_17 ?_
    refine V_gR dX10_undo_18 fl_T_19 ly_0 (by decide) wr_0_1 ?_
    refine V_gR dX10_undo_21 fl_T_100 ly_3 (by decide) wr_3_0 ?_
    refine V_cVU1 (My := D_X7_restore) dX10_undo_24 ml_T_215 ce_X7_restore ly_10 (by decide) cl_7 (by decide) (Nat.le_refl _) (Nat.le_refl _) (by decide) (sumL rfl) (w_X7_restore hx h) (fun x2 hx2 h => ?_)
    refine V_aload_0 dX10_undo_27 ?_
    refine V_gR dX10_undo_28 fl_T_26 ly_0 (by decide) wr_0_2 ?_
    refine V_gI dX10_undo_31 fl_T_148 ly_10 (by decide) wn_10_2 ?_
    exact V_ireturn dX10_undo_34 rfl ⟨_, _, rfl, hx2, rfl, (hx2 _ _), h⟩
  · have h := h.2 c1
    refine V_ldc dX10_undo_10 kc_T_190 ?_
    exact V_ireturn dX10_undo_12 rfl ⟨_, _, rfl, hx, rfl, (rgL rfl), h⟩
def M_X11_undo_22 (q : Int → XM → Prop) : Nat → XM → Int → Prop
  | 0, _, _ => False
  | n + 1, x, v1 =>
  ((31 ≤ v1 → q (x 83 27) x) ∧ (¬ (31 ≤ v1) → (0 ≤ ((31 * (x 83 27)) + v1) ∧ ((31 * (x 83 27)) + v1) < 496) ∧ (0 ≤ v1 ∧ v1 < 31) ∧ (∀ x7 : XM, x7 = uX x 93 (v1.toNat) (x 94 ((((31 * (x 83 27)) + v1)).toNat)) → (Rg (v1 + 1)) ∧ (M_X11_undo_22 q n) x7 (v1 + 1))))
def M_X11_undo (x : XM) (q : Int → XM → Prop) : Prop :=
  ((¬ (x 83 27) = 0 → (Rg ((x 83 27) - 1)) ∧ (∀ x3 : XM, x3 = uX x 83 27 ((x 83 27) - 1) → (∃ m : Nat, M_X11_undo_22 q m x3 0))) ∧ ((x 83 27) = 0 → q (-1000000003) x))
set_option maxRecDepth 100000 in
theorem w_X11_undo_22 {Γ : GE} {q : Int → XM → Prop} : ∀ (n : Nat) (x : XM) (v1 : Int) , WX x → Rg v1 → M_X11_undo_22 q n x v1 → V Γ 0 NF NF D_X11_undo (QE Γ q) 22 [.ref (gB Γ + 83), vI v1] [] NF (mk Γ x) := by
  intro n
  induction n with
  | zero =>
    intro x v1 hx r1 h
    rw [M_X11_undo_22.eq_1] at h
    exact h.elim
  | succ n ih =>
    intro x v1 hx r1 h
    rw [M_X11_undo_22.eq_2] at h
    refine V_iload_1 dX11_undo_22 ?_
    refine V_bipush dX11_undo_23 (by decide) ?_
    refine V_icmp_ge 54 dX11_undo_25 (by decide) r1 (rgL rfl) ⟨fun c4 => ?_, fun c4 => ?_⟩
    · have h := h.1 c4
      refine V_aload_0 dX11_undo_54 ?_
      refine V_gI dX11_undo_55 fl_R_157 ly_83 (by decide) wn_83_27 ?_
      exact V_ireturn dX11_undo_58 rfl ⟨_, _, rfl, hx, rfl, (hx _ _), h⟩
    · have h := h.2 c4
      refine V_aload_0 dX11_undo_28 ?_
      refine V_gR dX11_undo_29 fl_R_38 ly_83 (by decide) wr_83_25 ?_
      refine V_iload_1 dX11_undo_32 ?_
      refine V_aload_0 dX11_undo_33 ?_
      refine V_gR dX11_undo_34 fl_R_41 ly_83 (by decide) wr_83_26 ?_
      refine V_bipush dX11_undo_37 (by decide) ?_
      refine V_aload_0 dX11_undo_39 ?_
      refine V_gI dX11_undo_40 fl_R_157 ly_83 (by decide) wn_83_27 ?_
      refine V_imul dX11_undo_43 ?_
      refine V_iload_1 dX11_undo_44 ?_
      refine V_iadd dX11_undo_45 ?_
      obtain ⟨g5, h⟩ := h
      refine V_aI dX11_undo_46 ly_94 (by decide) (by decide) g5 ?_
      obtain ⟨g6, h⟩ := h
      refine V_sIe dX11_undo_47 ly_93 (by decide) (by decide) g6 (fun x7 ex7 => ?_)
      have h := h x7 ex7
      have hx7 := hx.upE (hx _ _) ex7
      refine V_iinc_1 (a1 := uu) dX11_undo_48 rfl ?_
      refine V_goto 22 dX11_undo_51 (by decide) ?_
      obtain ⟨g8, h⟩ := h
      exact ih _ _ hx7 g8 h
set_option maxRecDepth 100000 in
theorem w_X11_undo {Γ : GE} {x : XM} (hx : WX x) {q : Int → XM → Prop} (h : M_X11_undo x q) : CV Γ 0 NF NF D_X11_undo [.ref (gB Γ + 83)] (mk Γ x) (QE Γ q) := by
  refine CV.of rfl (cat_all rfl) (Nat.le_of_ble_eq_true rfl) ?_
  show V Γ 0 NF NF D_X11_undo (QE Γ q) 0 [.ref (gB Γ + 83), uu] [] NF (mk Γ x)
  unfold M_X11_undo at h
  refine V_aload_0 dX11_undo_0 ?_
  refine V_gI dX11_undo_1 fl_R_157 ly_83 (by decide) wn_83_27 ?_
  refine V_if_ne 10 dX11_undo_4 (by decide) (hx _ _) ⟨fun c1 => ?_, fun c1 => ?_⟩
  · have h := h.1 c1
    refine V_aload_0 dX11_undo_10 ?_
    refine V_dup dX11_undo_11 rfl ?_
    refine V_gI dX11_undo_12 fl_R_157 ly_83 (by decide) wn_83_27 ?_
    refine V_iconst dX11_undo_15 ?_
    refine V_isub dX11_undo_16 ?_
    obtain ⟨g2, h⟩ := h
    refine V_pIe dX11_undo_17 fl_R_157 ly_83 (by decide) wn_83_27 (fun x3 ex3 => ?_)
    have h := h x3 ex3
    have hx3 := hx.upE g2 ex3
    refine V_iconst dX11_undo_20 ?_
    refine V_istore_1 dX11_undo_21 rfl rfl ?_
    obtain ⟨m9, h⟩ := h
    exact w_X11_undo_22 m9 _ _ hx3 (rgL rfl) h
  · have h := h.2 c1
    refine V_ldc dX11_undo_7 kc_R_224 ?_
    exact V_ireturn dX11_undo_9 rfl ⟨_, _, rfl, hx, rfl, (rgL rfl), h⟩
def M_X4_passing_4 (q : Int → Prop) (x : XM) : Nat → Int → Int → Int → Prop
  | 0, _, _, _ => False
  | n + 1, v1, v2, v3 =>
  M_X0_count x 1  (fun z1 => ((z1 ≤ v3 → q v2) ∧ (¬ (z1 ≤ v3) → (0 ≤ v1) ∧ M_X0_mark x v3 (v1 / 30)  (fun z4 => (0 ≤ v1) ∧ (0 ≤ (v1 / 10)) ∧ (0 ≤ v1) ∧ M_X0_passes x z4 ((v1 / 10) % 3) (v1 % 10)  (fun z8 => ((z8 = 0 → (Rg (v3 + 1)) ∧ (M_X4_passing_4 q x n) v1 v2 (v3 + 1)) ∧ (¬ z8 = 0 → (Rg (v3 + 1)) ∧ (M_X4_passing_4 q x n) v1 (jor v2 (jshl 1 v3)) (v3 + 1))))))))
def M_X4_passing (x : XM) (v1 : Int) (q : Int → Prop) : Prop :=
  ∃ m : Nat, M_X4_passing_4 q x m v1 0 0
set_option maxRecDepth 100000 in
theorem w_X4_passing_4 {Γ : GE} {q : Int → Prop} {x : XM} (hx : WX x) : ∀ (n : Nat) (v1 : Int) (v2 : Int) (v3 : Int) , Rg v1 → Rg v2 → Rg v3 → M_X4_passing_4 q x n v1 v2 v3 → V Γ 2 NF NF D_X4_passing (QI Γ x q) 4 [.ref (gB Γ + 65), vI v1, vI v2, vI v3] [] NF (mk Γ x) := by
  intro n
  induction n with
  | zero =>
    intro v1 v2 v3 r1 r2 r3 h
    rw [M_X4_passing_4.eq_1] at h
    exact h.elim
  | succ n ih =>
    intro v1 v2 v3 r1 r2 r3 h
    rw [M_X4_passing_4.eq_2] at h
    refine V_iload_3 dX4_passing_4 ?_
    refine V_aload_0 dX4_passing_5 ?_
    refine V_gR dX4_passing_6 fl_Fitting_18 ly_65 (by decide) wr_65_0 ?_
    refine V_iconst dX4_passing_9 ?_
    refine V_cVI1 (My := D_X0_count) dX4_passing_10 ml_Fitting_22 ce_X0_count ly_3 (by decide) cl_0 (by decide) (Nat.le_refl _) (Nat.le_refl _) (by decide) (sumL rfl) (w_X0_count hx (rgL rfl) h) (fun z1 hz1 h => ?_)
    refine V_icmp_ge 56 dX4_passing_13 (by decide) r3 hz1 ⟨fun c2 => ?_, fun c2 => ?_⟩
    · have h := h.1 c2
      refine V_iload_2 dX4_passing_56 ?_
      exact V_ireturn dX4_passing_57 rfl ⟨rfl, _, rfl, r2, h⟩
    · have h := h.2 c2
      refine V_aload_0 dX4_passing_16 ?_
      refine V_gR dX4_passing_17 fl_Fitting_18 ly_65 (by decide) wr_65_0 ?_
      refine V_iload_3 dX4_passing_20 ?_
      refine V_iload_1 dX4_passing_21 ?_
      refine V_bipush dX4_passing_22 (by decide) ?_
      obtain ⟨g3, h⟩ := h
      refine V_idiv dX4_passing_24 r1 (rgL rfl) g3 (lt0 rfl) ?_
      refine V_cVI2 (My := D_X0_mark) dX4_passing_25 ml_Fitting_28 ce_X0_mark ly_3 (by decide) cl_0 (by decide) (Nat.le_refl _) (Nat.le_refl _) (by decide) (sumL rfl) (w_X0_mark hx r3 (rgDiv r1 g3 (lt0 rfl)) h) (fun z4 hz4 h => ?_)
      refine V_iload_1 dX4_passing_28 ?_
      refine V_bipush dX4_passing_29 (by decide) ?_
      obtain ⟨g5, h⟩ := h
      refine V_idiv dX4_passing_31 r1 (rgL rfl) g5 (lt0 rfl) ?_
      refine V_iconst dX4_passing_32 ?_
      obtain ⟨g6, h⟩ := h
      refine V_irem dX4_passing_33 (rgDiv r1 g5 (lt0 rfl)) (rgL rfl) g6 (lt0 rfl) ?_
      refine V_iload_1 dX4_passing_34 ?_
      refine V_bipush dX4_passing_35 (by decide) ?_
      obtain ⟨g7, h⟩ := h
      refine V_irem dX4_passing_37 r1 (rgL rfl) g7 (lt0 rfl) ?_
      refine V_cSI3 (My := D_X0_passes) dX4_passing_38 ml_Fitting_32 ce_X0_passes (Nat.le_refl _) (Nat.le_refl _) (by decide) (sumL rfl) (w_X0_passes hx hz4 (rgRem (rgL rfl) (lt0 rfl)) (rgRem (rgL rfl) (lt0 rfl)) h) (fun z8 hz8 h => ?_)
      refine V_if_eq 50 dX4_passing_41 (by decide) hz8 ⟨fun c9 => ?_, fun c9 => ?_⟩
      · have h := h.1 c9
        refine V_iinc_3 (a3 := uu) dX4_passing_50 rfl ?_
        refine V_goto 4 dX4_passing_53 (by decide) ?_
        obtain ⟨g10, h⟩ := h
        exact ih _ _ _ r1 r2 g10 h
      · have h := h.2 c9
        refine V_iload_2 dX4_passing_44 ?_
        refine V_iconst dX4_passing_45 ?_
        refine V_iload_3 dX4_passing_46 ?_
        refine V_ishl dX4_passing_47 ?_
        refine V_ior dX4_passing_48 ?_
        refine V_istore_2 dX4_passing_49 rfl rfl ?_
        refine V_iinc_3 (a3 := uu) dX4_passing_50 rfl ?_
        refine V_goto 4 dX4_passing_53 (by decide) ?_
        obtain ⟨g11, h⟩ := h
        exact ih _ _ _ r1 (Rg.of _) g11 h
set_option maxRecDepth 100000 in
theorem w_X4_passing {Γ : GE} {x : XM} (hx : WX x) {v1 : Int} {q : Int → Prop} (r1 : Rg v1) (h : M_X4_passing x v1 q) : CV Γ 2 NF NF D_X4_passing [.ref (gB Γ + 65), vI v1] (mk Γ x) (QI Γ x q) := by
  refine CV.of rfl (cat_all rfl) (Nat.le_of_ble_eq_true rfl) ?_
  show V Γ 2 NF NF D_X4_passing (QI Γ x q) 0 [.ref (gB Γ + 65), vI v1, uu, uu] [] NF (mk Γ x)
  unfold M_X4_passing at h
  refine V_iconst dX4_passing_0 ?_
  refine V_istore_2 dX4_passing_1 rfl rfl ?_
  refine V_iconst dX4_passing_2 ?_
  refine V_istore_3 dX4_passing_3 rfl rfl ?_
  obtain ⟨m9, h⟩ := h
  exact w_X4_passing_4 hx m9 _ _ _ r1 (rgL rfl) (rgL rfl) h
def M_X4_fits (x : XM) (v0 : Int) (v1 : Int) (v2 : Int) (q : Int → Prop) : Prop :=
  ((¬ (jand v1 (jxor v0 (-1))) = 0 → q 0) ∧ ((jand v1 (jxor v0 (-1))) = 0 → ((¬ (jand v2 v0) = 0 → q 0) ∧ ((jand v2 v0) = 0 → q 1))))
set_option maxRecDepth 100000 in
theorem w_X4_fits {Γ : GE} {x : XM} (hx : WX x) {v0 v1 v2 : Int} {q : Int → Prop} (r0 : Rg v0) (r1 : Rg v1) (r2 : Rg v2) (h : M_X4_fits x v0 v1 v2 q) : CV Γ 0 NF NF D_X4_fits [vI v0, vI v1, vI v2] (mk Γ x) (QI Γ x q) := by
  refine CV.of rfl (cat_all rfl) (Nat.le_of_ble_eq_true rfl) ?_
  show V Γ 0 NF NF D_X4_fits (QI Γ x q) 0 [vI v0, vI v1, vI v2] [] NF (mk Γ x)
  unfold M_X4_fits at h
  refine V_iload_1 dX4_fits_0 ?_
  refine V_iload_0 dX4_fits_1 ?_
  refine V_iconst dX4_fits_2 ?_
  refine V_ixor dX4_fits_3 ?_
  refine V_iand dX4_fits_4 ?_
  refine V_if_ne 18 dX4_fits_5 (by decide) (Rg.of _) ⟨fun c1 => ?_, fun c1 => ?_⟩
  · have h := h.1 c1
    refine V_iconst dX4_fits_18 ?_
    exact V_zreturn dX4_fits_19 rfl (Or.inl rfl) ⟨rfl, _, rfl, (rgL rfl), h⟩
  · have h := h.2 c1
    refine V_iload_2 dX4_fits_8 ?_
    refine V_iload_0 dX4_fits_9 ?_
    refine V_iand dX4_fits_10 ?_
    refine V_if_ne 18 dX4_fits_11 (by decide) (Rg.of _) ⟨fun c2 => ?_, fun c2 => ?_⟩
    · have h := h.1 c2
      refine V_iconst dX4_fits_18 ?_
      exact V_zreturn dX4_fits_19 rfl (Or.inl rfl) ⟨rfl, _, rfl, (rgL rfl), h⟩
    · have h := h.2 c2
      refine V_iconst dX4_fits_14 ?_
      refine V_goto 19 dX4_fits_15 (by decide) ?_
      exact V_zreturn dX4_fits_19 rfl (Or.inr rfl) ⟨rfl, _, rfl, (rgL rfl), h⟩
def M_X4_fitFor_31 (q : Int → Prop) (x : XM) : Nat → Int → Int → Int → Int → Int → Prop
  | 0, _, _, _, _, _ => False
  | n + 1, v2, v3, v4, v5, v6 =>
  ((120 ≤ v6 → ((¬ v2 = (-1) → q (-1)) ∧ (v2 = (-1) → q v5))) ∧ (¬ (120 ≤ v6) → M_X4_passing x v6  (fun z5 => M_X4_fits x z5 v3 v4  (fun z6 => ((z6 = 0 → (Rg (v6 + 1)) ∧ (M_X4_fitFor_31 q x n) v2 v3 v4 v5 (v6 + 1)) ∧ (¬ z6 = 0 → ((¬ v5 = v2 → (Rg (v5 + 1)) ∧ (Rg (v6 + 1)) ∧ (M_X4_fitFor_31 q x n) v2 v3 v4 (v5 + 1) (v6 + 1)) ∧ (v5 = v2 → q v6))))))))
def M_X4_fitFor (x : XM) (v1 : Int) (v2 : Int) (q : Int → Prop) : Prop :=
  M_X0_at x v1  (fun z1 => M_X0_from x 0 6  (fun z2 => ∃ m : Nat, M_X4_fitFor_31 q x m v2 z1 (jand z2 (jxor z1 (-1))) 0 0))
set_option maxRecDepth 100000 in
theorem w_X4_fitFor_31 {Γ : GE} {q : Int → Prop} {x : XM} (hx : WX x) : ∀ (n : Nat) (v2 : Int) (v3 : Int) (v4 : Int) (v5 : Int) (v6 : Int) , Rg v2 → Rg v3 → Rg v4 → Rg v5 → Rg v6 → M_X4_fitFor_31 q x n v2 v3 v4 v5 v6 → V Γ 3 NF NF D_X4_fitFor (QI Γ x q) 31 [.ref (gB Γ + 65), uu, vI v2, vI v3, vI v4, vI v5, vI v6] [] NF (mk Γ x) := by
  intro n
  induction n with
  | zero =>
    intro v2 v3 v4 v5 v6 r2 r3 r4 r5 r6 h
    rw [M_X4_fitFor_31.eq_1] at h
    exact h.elim
  | succ n ih =>
    intro v2 v3 v4 v5 v6 r2 r3 r4 r5 r6 h
    rw [M_X4_fitFor_31.eq_2] at h
    refine V_iload_6 dX4_fitFor_31 ?_
    refine V_bipush dX4_fitFor_33 (by decide) ?_
    refine V_icmp_ge 71 dX4_fitFor_35 (by decide) r6 (rgL rfl) ⟨fun c3 => ?_, fun c3 => ?_⟩
    · have h := h.1 c3
      refine V_iload_2 dX4_fitFor_71 ?_
      refine V_iconst dX4_fitFor_72 ?_
      refine V_icmp_ne 81 dX4_fitFor_73 (by decide) r2 (rgL rfl) ⟨fun c4 => ?_, fun c4 => ?_⟩
      · have h := h.1 c4
        refine V_iconst dX4_fitFor_81 ?_
        exact V_ireturn dX4_fitFor_82 rfl ⟨rfl, _, rfl, (rgL rfl), h⟩
      · have h := h.2 c4
        refine V_iload_5 dX4_fitFor_76 ?_
        refine V_goto 82 dX4_fitFor_78 (by decide) ?_
        exact V_ireturn dX4_fitFor_82 rfl ⟨rfl, _, rfl, r5, h⟩
    · have h := h.2 c3
      refine V_aload_0 dX4_fitFor_38 ?_
      refine V_iload_6 dX4_fitFor_39 ?_
      refine V_cVI1 (My := D_X4_passing) dX4_fitFor_41 ml_Fitting_42 ce_X4_passing ly_65 (by decide) cl_4 (by decide) (Nat.le_refl _) (Nat.le_refl _) (by decide) (sumL rfl) (w_X4_passing hx r6 h) (fun z5 hz5 h => ?_)
      refine V_iload_3 dX4_fitFor_44 ?_
      refine V_iload_4 dX4_fitFor_45 ?_
      refine V_cSI3 (My := D_X4_fits) dX4_fitFor_47 ml_Fitting_45 ce_X4_fits (Nat.le_refl _) (Nat.le_refl _) (by decide) (sumL rfl) (w_X4_fits hx hz5 r3 r4 h) (fun z6 hz6 h => ?_)
      refine V_if_eq 65 dX4_fitFor_50 (by decide) hz6 ⟨fun c7 => ?_, fun c7 => ?_⟩
      · have h := h.1 c7
        refine V_iinc_6 (a6 := uu) dX4_fitFor_65 rfl ?_
        refine V_goto 31 dX4_fitFor_68 (by decide) ?_
        obtain ⟨g8, h⟩ := h
        exact ih _ _ _ _ _ r2 r3 r4 r5 g8 h
      · have h := h.2 c7
        refine V_iload_5 dX4_fitFor_53 ?_
        refine V_iload_2 dX4_fitFor_55 ?_
        refine V_icmp_ne 62 dX4_fitFor_56 (by decide) r5 r2 ⟨fun c9 => ?_, fun c9 => ?_⟩
        · have h := h.1 c9
          refine V_iinc_5 (a5 := uu) dX4_fitFor_62 rfl ?_
          refine V_iinc_6 (a6 := uu) dX4_fitFor_65 rfl ?_
          refine V_goto 31 dX4_fitFor_68 (by decide) ?_
          obtain ⟨g10, h⟩ := h
          obtain ⟨g11, h⟩ := h
          exact ih _ _ _ _ _ r2 r3 r4 g10 g11 h
        · have h := h.2 c9
          refine V_iload_6 dX4_fitFor_59 ?_
          exact V_ireturn dX4_fitFor_61 rfl ⟨rfl, _, rfl, r6, h⟩
set_option maxRecDepth 100000 in
theorem w_X4_fitFor {Γ : GE} {x : XM} (hx : WX x) {v1 v2 : Int} {q : Int → Prop} (r1 : Rg v1) (r2 : Rg v2) (h : M_X4_fitFor x v1 v2 q) : CV Γ 3 NF NF D_X4_fitFor [.ref (gB Γ + 65), vI v1, vI v2] (mk Γ x) (QI Γ x q) := by
  refine CV.of rfl (cat_all rfl) (Nat.le_of_ble_eq_true rfl) ?_
  show V Γ 3 NF NF D_X4_fitFor (QI Γ x q) 0 [.ref (gB Γ + 65), vI v1, vI v2, uu, uu, uu, uu] [] NF (mk Γ x)
  unfold M_X4_fitFor at h
  refine V_aload_0 dX4_fitFor_0 ?_
  refine V_gR dX4_fitFor_1 fl_Fitting_18 ly_65 (by decide) wr_65_0 ?_
  refine V_iload_1 dX4_fitFor_4 ?_
  refine V_cVI1 (My := D_X0_at) dX4_fitFor_5 ml_Fitting_36 ce_X0_at ly_3 (by decide) cl_0 (by decide) (Nat.le_refl _) (Nat.le_refl _) (by decide) (sumL rfl) (w_X0_at hx r1 h) (fun z1 hz1 h => ?_)
  refine V_istore_3 dX4_fitFor_8 rfl rfl ?_
  refine V_aload_0 dX4_fitFor_9 ?_
  refine V_gR dX4_fitFor_10 fl_Fitting_18 ly_65 (by decide) wr_65_0 ?_
  refine V_iconst dX4_fitFor_13 ?_
  refine V_bipush dX4_fitFor_14 (by decide) ?_
  refine V_cVI2 (My := D_X0_from) dX4_fitFor_16 ml_Fitting_39 ce_X0_from ly_3 (by decide) cl_0 (by decide) (Nat.le_refl _) (Nat.le_refl _) (by decide) (sumL rfl) (w_X0_from hx (rgL rfl) (rgL rfl) h) (fun z2 hz2 h => ?_)
  refine V_iload_3 dX4_fitFor_19 ?_
  refine V_iconst dX4_fitFor_20 ?_
  refine V_ixor dX4_fitFor_21 ?_
  refine V_iand dX4_fitFor_22 ?_
  refine V_istore_4 dX4_fitFor_23 rfl rfl ?_
  refine V_iconst dX4_fitFor_25 ?_
  refine V_istore_5 dX4_fitFor_26 rfl rfl ?_
  refine V_iconst dX4_fitFor_28 ?_
  refine V_istore_6 dX4_fitFor_29 rfl rfl ?_
  refine V_fg_1 ?_
  obtain ⟨m9, h⟩ := h
  exact w_X4_fitFor_31 hx m9 _ _ _ _ _ r2 hz1 (Rg.of _) (rgL rfl) (rgL rfl) h
def M_X10_fit (x : XM) (v1 : Int) (v2 : Int) (q : Int → Prop) : Prop :=
  M_X10_isHeap x v1  (fun z1 => ((¬ z1 = 0 → M_X0_at x v1  (fun z3 => ((¬ z3 = 0 → M_X4_fitFor x v1 v2  (fun z5 => q z5)) ∧ (z3 = 0 → q (-1000000003))))) ∧ (z1 = 0 → q (-1000000002))))
set_option maxRecDepth 100000 in
theorem w_X10_fit {Γ : GE} {x : XM} (hx : WX x) {v1 v2 : Int} {q : Int → Prop} (r1 : Rg v1) (r2 : Rg v2) (h : M_X10_fit x v1 v2 q) : CV Γ 4 NF NF D_X10_fit [.ref (gB Γ + 0), vI v1, vI v2] (mk Γ x) (QI Γ x q) := by
  refine CV.of rfl (cat_all rfl) (Nat.le_of_ble_eq_true rfl) ?_
  show V Γ 4 NF NF D_X10_fit (QI Γ x q) 0 [.ref (gB Γ + 0), vI v1, vI v2] [] NF (mk Γ x)
  unfold M_X10_fit at h
  refine V_iload_1 dX10_fit_0 ?_
  refine V_cSI1 (My := D_X10_isHeap) dX10_fit_1 ml_T_187 ce_X10_isHeap (Nat.le_refl _) (Nat.le_refl _) (by decide) (sumL rfl) (w_X10_isHeap hx r1 h) (fun z1 hz1 h => ?_)
  refine V_if_ne 10 dX10_fit_4 (by decide) hz1 ⟨fun c2 => ?_, fun c2 => ?_⟩
  · have h := h.1 c2
    refine V_aload_0 dX10_fit_10 ?_
    refine V_gR dX10_fit_11 fl_T_19 ly_0 (by decide) wr_0_1 ?_
    refine V_iload_1 dX10_fit_14 ?_
    refine V_cVI1 (My := D_X0_at) dX10_fit_15 ml_T_124 ce_X0_at ly_3 (by decide) cl_0 (by decide) (Nat.le_refl _) (Nat.le_refl _) (by decide) (sumL rfl) (w_X0_at hx r1 h) (fun z3 hz3 h => ?_)
    refine V_if_ne 26 dX10_fit_18 (by decide) hz3 ⟨fun c4 => ?_, fun c4 => ?_⟩
    · have h := h.1 c4
      refine V_aload_0 dX10_fit_26 ?_
      refine V_gR dX10_fit_27 fl_T_55 ly_0 (by decide) wr_0_6 ?_
      refine V_iload_1 dX10_fit_30 ?_
      refine V_iload_2 dX10_fit_31 ?_
      refine V_cVI2 (My := D_X4_fitFor) dX10_fit_32 ml_T_218 ce_X4_fitFor ly_65 (by decide) cl_4 (by decide) (Nat.le_refl _) (Nat.le_refl _) (by decide) (sumL rfl) (w_X4_fitFor hx r1 r2 h) (fun z5 hz5 h => ?_)
      exact V_ireturn dX10_fit_35 rfl ⟨rfl, _, rfl, hz5, h⟩
    · have h := h.2 c4
      refine V_ldc dX10_fit_21 kc_T_190 ?_
      refine V_goto 35 dX10_fit_23 (by decide) ?_
      exact V_ireturn dX10_fit_35 rfl ⟨rfl, _, rfl, (rgL rfl), h⟩
  · have h := h.2 c2
    refine V_ldc dX10_fit_7 kc_T_78 ?_
    exact V_ireturn dX10_fit_9 rfl ⟨rfl, _, rfl, (rgL rfl), h⟩
