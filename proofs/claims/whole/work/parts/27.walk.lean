def M_X0_unlikeMarks_5 (q : Int → Prop) (x : XM) : Nat → Int → Int → Int → Int → Prop
  | 0, _, _, _, _ => False
  | n + 1, v1, v2, v3, v4 =>
  ((4 ≤ v4 → q v3) ∧ (¬ (4 ≤ v4) → M_X0_mark x v1 v4  (fun z2 => M_X9_value (x 3 1) x 3 v2 v4  (fun z3 => ((z2 = z3 → (Rg (v4 + 1)) ∧ (M_X0_unlikeMarks_5 q x n) v1 v2 v3 (v4 + 1)) ∧ (¬ z2 = z3 → (Rg (v3 + 1)) ∧ (Rg (v4 + 1)) ∧ (M_X0_unlikeMarks_5 q x n) v1 v2 (v3 + 1) (v4 + 1)))))))
def M_X0_unlikeMarks (x : XM) (v1 : Int) (v2 : Int) (q : Int → Prop) : Prop :=
  ∃ m : Nat, M_X0_unlikeMarks_5 q x m v1 v2 0 0
set_option maxRecDepth 100000 in
theorem w_X0_unlikeMarks_5 {Γ : GE} {q : Int → Prop} {x : XM} (hx : WX x) : ∀ (n : Nat) (v1 : Int) (v2 : Int) (v3 : Int) (v4 : Int) , Rg v1 → Rg v2 → Rg v3 → Rg v4 → M_X0_unlikeMarks_5 q x n v1 v2 v3 v4 → V Γ 2 NF NF D_X0_unlikeMarks (QI Γ x q) 5 [.ref (gB Γ + 3), vI v1, vI v2, vI v3, vI v4] [] NF (mk Γ x) := by
  intro n
  induction n with
  | zero =>
    intro v1 v2 v3 v4 r1 r2 r3 r4 h
    rw [M_X0_unlikeMarks_5.eq_1] at h
    exact h.elim
  | succ n ih =>
    intro v1 v2 v3 v4 r1 r2 r3 r4 h
    rw [M_X0_unlikeMarks_5.eq_2] at h
    refine V_iload_4 dX0_unlikeMarks_5 ?_
    refine V_iconst dX0_unlikeMarks_7 ?_
    refine V_icmp_ge 41 dX0_unlikeMarks_8 (by decide) r4 (rgL rfl) ⟨fun c1 => ?_, fun c1 => ?_⟩
    · have h := h.1 c1
      refine V_iload_3 dX0_unlikeMarks_41 ?_
      exact V_ireturn dX0_unlikeMarks_42 rfl ⟨rfl, _, rfl, r3, h⟩
    · have h := h.2 c1
      refine V_aload_0 dX0_unlikeMarks_11 ?_
      refine V_iload_1 dX0_unlikeMarks_12 ?_
      refine V_iload_4 dX0_unlikeMarks_13 ?_
      refine V_cVI2 (My := D_X0_mark) dX0_unlikeMarks_15 ml_Bench_40 ce_X0_mark ly_3 (by decide) cl_0 (by decide) (Nat.le_refl _) (Nat.le_refl _) (by decide) (sumL rfl) (w_X0_mark hx r1 r4 h) (fun z2 hz2 h => ?_)
      refine V_aload_0 dX0_unlikeMarks_18 ?_
      refine V_gR dX0_unlikeMarks_19 fl_Bench_21 ly_3 (by decide) wr_3_1 ?_
      refine V_iconst dX0_unlikeMarks_22 ?_
      refine V_iload_2 dX0_unlikeMarks_23 ?_
      refine V_iload_4 dX0_unlikeMarks_24 ?_
      refine V_cVI3 (My := D_X9_value) dX0_unlikeMarks_26 ml_Bench_32 ce_X9_value (tid_f (x 3 1)).1 (by decide) cl_9 (tid_b0 (x 3 1)) (Nat.le_refl _) (Nat.le_refl _) (by decide) (sumL rfl) (w_X9_value hx (rgL rfl) r2 r4 h) (fun z3 hz3 h => ?_)
      refine V_icmp_eq 35 dX0_unlikeMarks_29 (by decide) hz2 hz3 ⟨fun c4 => ?_, fun c4 => ?_⟩
      · have h := h.1 c4
        refine V_iinc_4 (a4 := uu) dX0_unlikeMarks_35 rfl ?_
        refine V_goto 5 dX0_unlikeMarks_38 (by decide) ?_
        obtain ⟨g5, h⟩ := h
        exact ih _ _ _ _ r1 r2 r3 g5 h
      · have h := h.2 c4
        refine V_iinc_3 (a3 := uu) dX0_unlikeMarks_32 rfl ?_
        refine V_iinc_4 (a4 := uu) dX0_unlikeMarks_35 rfl ?_
        refine V_goto 5 dX0_unlikeMarks_38 (by decide) ?_
        obtain ⟨g6, h⟩ := h
        obtain ⟨g7, h⟩ := h
        exact ih _ _ _ _ r1 r2 g6 g7 h
set_option maxRecDepth 100000 in
theorem w_X0_unlikeMarks {Γ : GE} {x : XM} (hx : WX x) {v1 v2 : Int} {q : Int → Prop} (r1 : Rg v1) (r2 : Rg v2) (h : M_X0_unlikeMarks x v1 v2 q) : CV Γ 2 NF NF D_X0_unlikeMarks [.ref (gB Γ + 3), vI v1, vI v2] (mk Γ x) (QI Γ x q) := by
  refine CV.of rfl (cat_all rfl) (Nat.le_of_ble_eq_true rfl) ?_
  show V Γ 2 NF NF D_X0_unlikeMarks (QI Γ x q) 0 [.ref (gB Γ + 3), vI v1, vI v2, uu, uu] [] NF (mk Γ x)
  unfold M_X0_unlikeMarks at h
  refine V_iconst dX0_unlikeMarks_0 ?_
  refine V_istore_3 dX0_unlikeMarks_1 rfl rfl ?_
  refine V_iconst dX0_unlikeMarks_2 ?_
  refine V_istore_4 dX0_unlikeMarks_3 rfl rfl ?_
  obtain ⟨m9, h⟩ := h
  exact w_X0_unlikeMarks_5 hx m9 _ _ _ _ r1 r2 (rgL rfl) (rgL rfl) h
def M_X10_slips (x : XM) (v1 : Int) (v2 : Int) (q : Int → Prop) : Prop :=
  M_X10_isThere x 1 v1  (fun z1 => ((z1 = 0 → q (-1000000001)) ∧ (¬ z1 = 0 → M_X10_isThere x 3 v2  (fun z3 => ((¬ z3 = 0 → M_X0_unlikeMarks x v1 v2  (fun z5 => q z5)) ∧ (z3 = 0 → q (-1000000001)))))))
set_option maxRecDepth 100000 in
theorem w_X10_slips {Γ : GE} {x : XM} (hx : WX x) {v1 v2 : Int} {q : Int → Prop} (r1 : Rg v1) (r2 : Rg v2) (h : M_X10_slips x v1 v2 q) : CV Γ 3 NF NF D_X10_slips [.ref (gB Γ + 0), vI v1, vI v2] (mk Γ x) (QI Γ x q) := by
  refine CV.of rfl (cat_all rfl) (Nat.le_of_ble_eq_true rfl) ?_
  show V Γ 3 NF NF D_X10_slips (QI Γ x q) 0 [.ref (gB Γ + 0), vI v1, vI v2] [] NF (mk Γ x)
  unfold M_X10_slips at h
  refine V_aload_0 dX10_slips_0 ?_
  refine V_iconst dX10_slips_1 ?_
  refine V_iload_1 dX10_slips_2 ?_
  refine V_cVI2 (My := D_X10_isThere) dX10_slips_3 ml_T_149 ce_X10_isThere ly_0 (by decide) cl_10 (by decide) (Nat.le_refl _) (Nat.le_refl _) (by decide) (sumL rfl) (w_X10_isThere hx (rgL rfl) r1 h) (fun z1 hz1 h => ?_)
  refine V_if_eq 18 dX10_slips_6 (by decide) hz1 ⟨fun c2 => ?_, fun c2 => ?_⟩
  · have h := h.1 c2
    refine V_ldc dX10_slips_18 kc_T_153 ?_
    exact V_ireturn dX10_slips_20 rfl ⟨rfl, _, rfl, (rgL rfl), h⟩
  · have h := h.2 c2
    refine V_aload_0 dX10_slips_9 ?_
    refine V_iconst dX10_slips_10 ?_
    refine V_iload_2 dX10_slips_11 ?_
    refine V_cVI2 (My := D_X10_isThere) dX10_slips_12 ml_T_149 ce_X10_isThere ly_0 (by decide) cl_10 (by decide) (Nat.le_refl _) (Nat.le_refl _) (by decide) (sumL rfl) (w_X10_isThere hx (rgL rfl) r2 h) (fun z3 hz3 h => ?_)
    refine V_if_ne 21 dX10_slips_15 (by decide) hz3 ⟨fun c4 => ?_, fun c4 => ?_⟩
    · have h := h.1 c4
      refine V_aload_0 dX10_slips_21 ?_
      refine V_gR dX10_slips_22 fl_T_19 ly_0 (by decide) wr_0_1 ?_
      refine V_iload_1 dX10_slips_25 ?_
      refine V_iload_2 dX10_slips_26 ?_
      refine V_cVI2 (My := D_X0_unlikeMarks) dX10_slips_27 ml_T_242 ce_X0_unlikeMarks ly_3 (by decide) cl_0 (by decide) (Nat.le_refl _) (Nat.le_refl _) (by decide) (sumL rfl) (w_X0_unlikeMarks hx r1 r2 h) (fun z5 hz5 h => ?_)
      exact V_ireturn dX10_slips_30 rfl ⟨rfl, _, rfl, hz5, h⟩
    · have h := h.2 c4
      refine V_ldc dX10_slips_18 kc_T_153 ?_
      exact V_ireturn dX10_slips_20 rfl ⟨rfl, _, rfl, (rgL rfl), h⟩
def M_X11_slipsOf_5 (q : Int → Prop) (x : XM) : Nat → Int → Int → Int → Int → Prop
  | 0, _, _, _, _ => False
  | n + 1, v1, v2, v3, v4 =>
  ((4 ≤ v4 → q v3) ∧ (¬ (4 ≤ v4) → M_X11_markOf x v1 v4  (fun z2 => (0 ≤ ((4 * v2) + v4) ∧ ((4 * v2) + v4) < 20) ∧ ((¬ z2 = (x 87 ((((4 * v2) + v4)).toNat)) → (Rg (v3 + 1)) ∧ (Rg (v4 + 1)) ∧ (M_X11_slipsOf_5 q x n) v1 v2 (v3 + 1) (v4 + 1)) ∧ (z2 = (x 87 ((((4 * v2) + v4)).toNat)) → (Rg (v3 + 0)) ∧ (Rg (v4 + 1)) ∧ (M_X11_slipsOf_5 q x n) v1 v2 (v3 + 0) (v4 + 1))))))
def M_X11_slipsOf (x : XM) (v1 : Int) (v2 : Int) (q : Int → Prop) : Prop :=
  ∃ m : Nat, M_X11_slipsOf_5 q x m v1 v2 0 0
set_option maxRecDepth 100000 in
theorem w_X11_slipsOf_5 {Γ : GE} {q : Int → Prop} {x : XM} (hx : WX x) : ∀ (n : Nat) (v1 : Int) (v2 : Int) (v3 : Int) (v4 : Int) , Rg v1 → Rg v2 → Rg v3 → Rg v4 → M_X11_slipsOf_5 q x n v1 v2 v3 v4 → V Γ 1 NF NF D_X11_slipsOf (QI Γ x q) 5 [.ref (gB Γ + 83), vI v1, vI v2, vI v3, vI v4] [] NF (mk Γ x) := by
  intro n
  induction n with
  | zero =>
    intro v1 v2 v3 v4 r1 r2 r3 r4 h
    rw [M_X11_slipsOf_5.eq_1] at h
    exact h.elim
  | succ n ih =>
    intro v1 v2 v3 v4 r1 r2 r3 r4 h
    rw [M_X11_slipsOf_5.eq_2] at h
    refine V_iload_4 dX11_slipsOf_5 ?_
    refine V_iconst dX11_slipsOf_7 ?_
    refine V_icmp_ge 46 dX11_slipsOf_8 (by decide) r4 (rgL rfl) ⟨fun c1 => ?_, fun c1 => ?_⟩
    · have h := h.1 c1
      refine V_iload_3 dX11_slipsOf_46 ?_
      exact V_ireturn dX11_slipsOf_47 rfl ⟨rfl, _, rfl, r3, h⟩
    · have h := h.2 c1
      refine V_iload_3 dX11_slipsOf_11 ?_
      refine V_aload_0 dX11_slipsOf_12 ?_
      refine V_iload_1 dX11_slipsOf_13 ?_
      refine V_iload_4 dX11_slipsOf_14 ?_
      refine V_cVI2 (My := D_X11_markOf) dX11_slipsOf_16 ml_R_163 ce_X11_markOf ly_83 (by decide) cl_11 (by decide) (Nat.le_refl _) (Nat.le_refl _) (by decide) (sumL rfl) (w_X11_markOf hx r1 r4 h) (fun z2 hz2 h => ?_)
      refine V_aload_0 dX11_slipsOf_19 ?_
      refine V_gR dX11_slipsOf_20 fl_R_20 ly_83 (by decide) wr_83_8 ?_
      refine V_iconst dX11_slipsOf_23 ?_
      refine V_iload_2 dX11_slipsOf_24 ?_
      refine V_imul dX11_slipsOf_25 ?_
      refine V_iload_4 dX11_slipsOf_26 ?_
      refine V_iadd dX11_slipsOf_28 ?_
      obtain ⟨g3, h⟩ := h
      refine V_aI dX11_slipsOf_29 ly_87 (by decide) (by decide) g3 ?_
      refine V_icmp_ne 37 dX11_slipsOf_30 (by decide) hz2 (hx _ _) ⟨fun c4 => ?_, fun c4 => ?_⟩
      · have h := h.1 c4
        refine V_iconst dX11_slipsOf_37 ?_
        refine V_iadd dX11_slipsOf_38 ?_
        refine V_istore_3 dX11_slipsOf_39 rfl rfl ?_
        refine V_iinc_4 (a4 := uu) dX11_slipsOf_40 rfl ?_
        refine V_goto 5 dX11_slipsOf_43 (by decide) ?_
        obtain ⟨g5, h⟩ := h
        obtain ⟨g6, h⟩ := h
        exact ih _ _ _ _ r1 r2 g5 g6 h
      · have h := h.2 c4
        refine V_iconst dX11_slipsOf_33 ?_
        refine V_goto 38 dX11_slipsOf_34 (by decide) ?_
        refine V_iadd dX11_slipsOf_38 ?_
        refine V_istore_3 dX11_slipsOf_39 rfl rfl ?_
        refine V_iinc_4 (a4 := uu) dX11_slipsOf_40 rfl ?_
        refine V_goto 5 dX11_slipsOf_43 (by decide) ?_
        obtain ⟨g7, h⟩ := h
        obtain ⟨g8, h⟩ := h
        exact ih _ _ _ _ r1 r2 g7 g8 h
set_option maxRecDepth 100000 in
theorem w_X11_slipsOf {Γ : GE} {x : XM} (hx : WX x) {v1 v2 : Int} {q : Int → Prop} (r1 : Rg v1) (r2 : Rg v2) (h : M_X11_slipsOf x v1 v2 q) : CV Γ 1 NF NF D_X11_slipsOf [.ref (gB Γ + 83), vI v1, vI v2] (mk Γ x) (QI Γ x q) := by
  refine CV.of rfl (cat_all rfl) (Nat.le_of_ble_eq_true rfl) ?_
  show V Γ 1 NF NF D_X11_slipsOf (QI Γ x q) 0 [.ref (gB Γ + 83), vI v1, vI v2, uu, uu] [] NF (mk Γ x)
  unfold M_X11_slipsOf at h
  refine V_iconst dX11_slipsOf_0 ?_
  refine V_istore_3 dX11_slipsOf_1 rfl rfl ?_
  refine V_iconst dX11_slipsOf_2 ?_
  refine V_istore_4 dX11_slipsOf_3 rfl rfl ?_
  obtain ⟨m9, h⟩ := h
  exact w_X11_slipsOf_5 hx m9 _ _ _ _ r1 r2 (rgL rfl) (rgL rfl) h
def M_X11_slips (x : XM) (v1 : Int) (v2 : Int) (q : Int → Prop) : Prop :=
  M_X11_isButton x v1  (fun z1 => ((z1 = 0 → q (-1000000001)) ∧ (¬ z1 = 0 → M_X11_isCause x v2  (fun z3 => ((z3 = 0 → q (-1000000001)) ∧ (¬ z3 = 0 → M_X11_slipsOf x v1 v2  (fun z5 => q z5)))))))
set_option maxRecDepth 100000 in
theorem w_X11_slips {Γ : GE} {x : XM} (hx : WX x) {v1 v2 : Int} {q : Int → Prop} (r1 : Rg v1) (r2 : Rg v2) (h : M_X11_slips x v1 v2 q) : CV Γ 2 NF NF D_X11_slips [.ref (gB Γ + 83), vI v1, vI v2] (mk Γ x) (QI Γ x q) := by
  refine CV.of rfl (cat_all rfl) (Nat.le_of_ble_eq_true rfl) ?_
  show V Γ 2 NF NF D_X11_slips (QI Γ x q) 0 [.ref (gB Γ + 83), vI v1, vI v2] [] NF (mk Γ x)
  unfold M_X11_slips at h
  refine V_aload_0 dX11_slips_0 ?_
  refine V_iload_1 dX11_slips_1 ?_
  refine V_cVI1 (My := D_X11_isButton) dX11_slips_2 ml_R_201 ce_X11_isButton ly_83 (by decide) cl_11 (by decide) (Nat.le_refl _) (Nat.le_refl _) (by decide) (sumL rfl) (w_X11_isButton hx r1 h) (fun z1 hz1 h => ?_)
  refine V_if_eq 25 dX11_slips_5 (by decide) hz1 ⟨fun c2 => ?_, fun c2 => ?_⟩
  · have h := h.1 c2
    refine V_ldc dX11_slips_25 kc_R_205 ?_
    exact V_ireturn dX11_slips_27 rfl ⟨rfl, _, rfl, (rgL rfl), h⟩
  · have h := h.2 c2
    refine V_aload_0 dX11_slips_8 ?_
    refine V_iload_2 dX11_slips_9 ?_
    refine V_cVI1 (My := D_X11_isCause) dX11_slips_10 ml_R_212 ce_X11_isCause ly_83 (by decide) cl_11 (by decide) (Nat.le_refl _) (Nat.le_refl _) (by decide) (sumL rfl) (w_X11_isCause hx r2 h) (fun z3 hz3 h => ?_)
    refine V_if_eq 25 dX11_slips_13 (by decide) hz3 ⟨fun c4 => ?_, fun c4 => ?_⟩
    · have h := h.1 c4
      refine V_ldc dX11_slips_25 kc_R_205 ?_
      exact V_ireturn dX11_slips_27 rfl ⟨rfl, _, rfl, (rgL rfl), h⟩
    · have h := h.2 c4
      refine V_aload_0 dX11_slips_16 ?_
      refine V_iload_1 dX11_slips_17 ?_
      refine V_iload_2 dX11_slips_18 ?_
      refine V_cVI2 (My := D_X11_slipsOf) dX11_slips_19 ml_R_274 ce_X11_slipsOf ly_83 (by decide) cl_11 (by decide) (Nat.le_refl _) (Nat.le_refl _) (by decide) (sumL rfl) (w_X11_slipsOf hx r1 r2 h) (fun z5 hz5 h => ?_)
      refine V_goto 27 dX11_slips_22 (by decide) ?_
      exact V_ireturn dX11_slips_27 rfl ⟨rfl, _, rfl, hz5, h⟩
def M_X0_fewestSlips_4 (q : Int → Prop) (x : XM) : Nat → Int → Int → Int → Prop
  | 0, _, _, _ => False
  | n + 1, v1, v2, v3 =>
  M_X0_count x 3  (fun z1 => ((z1 ≤ v3 → q v2) ∧ (¬ (z1 ≤ v3) → M_X0_unlikeMarks x v1 v3  (fun z3 => ((v2 = (-1) → (Rg (v3 + 1)) ∧ (M_X0_fewestSlips_4 q x n) v1 z3 (v3 + 1)) ∧ (¬ v2 = (-1) → ((v2 ≤ z3 → (Rg (v3 + 1)) ∧ (M_X0_fewestSlips_4 q x n) v1 v2 (v3 + 1)) ∧ (¬ (v2 ≤ z3) → (Rg (v3 + 1)) ∧ (M_X0_fewestSlips_4 q x n) v1 z3 (v3 + 1)))))))))
def M_X0_fewestSlips (x : XM) (v1 : Int) (q : Int → Prop) : Prop :=
  ∃ m : Nat, M_X0_fewestSlips_4 q x m v1 (-1) 0
set_option maxRecDepth 100000 in
theorem w_X0_fewestSlips_4 {Γ : GE} {q : Int → Prop} {x : XM} (hx : WX x) : ∀ (n : Nat) (v1 : Int) (v2 : Int) (v3 : Int) , Rg v1 → Rg v2 → Rg v3 → M_X0_fewestSlips_4 q x n v1 v2 v3 → V Γ 3 NF NF D_X0_fewestSlips (QI Γ x q) 4 [.ref (gB Γ + 3), vI v1, vI v2, vI v3, uu] [] NF (mk Γ x) := by
  intro n
  induction n with
  | zero =>
    intro v1 v2 v3 r1 r2 r3 h
    rw [M_X0_fewestSlips_4.eq_1] at h
    exact h.elim
  | succ n ih =>
    intro v1 v2 v3 r1 r2 r3 h
    rw [M_X0_fewestSlips_4.eq_2] at h
    refine V_iload_3 dX0_fewestSlips_4 ?_
    refine V_aload_0 dX0_fewestSlips_5 ?_
    refine V_iconst dX0_fewestSlips_6 ?_
    refine V_cVI1 (My := D_X0_count) dX0_fewestSlips_7 ml_Bench_29 ce_X0_count ly_3 (by decide) cl_0 (by decide) (Nat.le_refl _) (Nat.le_refl _) (by decide) (sumL rfl) (w_X0_count hx (rgL rfl) h) (fun z1 hz1 h => ?_)
    refine V_icmp_ge 41 dX0_fewestSlips_10 (by decide) r3 hz1 ⟨fun c2 => ?_, fun c2 => ?_⟩
    · have h := h.1 c2
      refine V_iload_2 dX0_fewestSlips_41 ?_
      exact V_ireturn dX0_fewestSlips_42 rfl ⟨rfl, _, rfl, r2, h⟩
    · have h := h.2 c2
      refine V_aload_0 dX0_fewestSlips_13 ?_
      refine V_iload_1 dX0_fewestSlips_14 ?_
      refine V_iload_3 dX0_fewestSlips_15 ?_
      refine V_cVI2 (My := D_X0_unlikeMarks) dX0_fewestSlips_16 ml_Bench_99 ce_X0_unlikeMarks ly_3 (by decide) cl_0 (by decide) (Nat.le_refl _) (Nat.le_refl _) (by decide) (sumL rfl) (w_X0_unlikeMarks hx r1 r3 h) (fun z3 hz3 h => ?_)
      refine V_istore_4 dX0_fewestSlips_19 rfl rfl ?_
      refine V_iload_2 dX0_fewestSlips_21 ?_
      refine V_iconst dX0_fewestSlips_22 ?_
      refine V_icmp_eq 32 dX0_fewestSlips_23 (by decide) r2 (rgL rfl) ⟨fun c4 => ?_, fun c4 => ?_⟩
      · have h := h.1 c4
        refine V_iload_4 dX0_fewestSlips_32 ?_
        refine V_istore_2 dX0_fewestSlips_34 rfl rfl ?_
        refine V_iinc_3 (a3 := uu) dX0_fewestSlips_35 rfl ?_
        refine V_goto 4 dX0_fewestSlips_38 (by decide) ?_
        obtain ⟨g5, h⟩ := h
        refine V_fg_4 ?_
        exact ih _ _ _ r1 hz3 g5 h
      · have h := h.2 c4
        refine V_iload_4 dX0_fewestSlips_26 ?_
        refine V_iload_2 dX0_fewestSlips_28 ?_
        refine V_icmp_ge 35 dX0_fewestSlips_29 (by decide) hz3 r2 ⟨fun c6 => ?_, fun c6 => ?_⟩
        · have h := h.1 c6
          refine V_iinc_3 (a3 := uu) dX0_fewestSlips_35 rfl ?_
          refine V_goto 4 dX0_fewestSlips_38 (by decide) ?_
          obtain ⟨g7, h⟩ := h
          refine V_fg_4 ?_
          exact ih _ _ _ r1 r2 g7 h
        · have h := h.2 c6
          refine V_iload_4 dX0_fewestSlips_32 ?_
          refine V_istore_2 dX0_fewestSlips_34 rfl rfl ?_
          refine V_iinc_3 (a3 := uu) dX0_fewestSlips_35 rfl ?_
          refine V_goto 4 dX0_fewestSlips_38 (by decide) ?_
          obtain ⟨g8, h⟩ := h
          refine V_fg_4 ?_
          exact ih _ _ _ r1 hz3 g8 h
set_option maxRecDepth 100000 in
theorem w_X0_fewestSlips {Γ : GE} {x : XM} (hx : WX x) {v1 : Int} {q : Int → Prop} (r1 : Rg v1) (h : M_X0_fewestSlips x v1 q) : CV Γ 3 NF NF D_X0_fewestSlips [.ref (gB Γ + 3), vI v1] (mk Γ x) (QI Γ x q) := by
  refine CV.of rfl (cat_all rfl) (Nat.le_of_ble_eq_true rfl) ?_
  show V Γ 3 NF NF D_X0_fewestSlips (QI Γ x q) 0 [.ref (gB Γ + 3), vI v1, uu, uu, uu] [] NF (mk Γ x)
  unfold M_X0_fewestSlips at h
  refine V_iconst dX0_fewestSlips_0 ?_
  refine V_istore_2 dX0_fewestSlips_1 rfl rfl ?_
  refine V_iconst dX0_fewestSlips_2 ?_
  refine V_istore_3 dX0_fewestSlips_3 rfl rfl ?_
  obtain ⟨m9, h⟩ := h
  exact w_X0_fewestSlips_4 hx m9 _ _ _ r1 (rgL rfl) (rgL rfl) h
def M_X0_causesWithSlips_5 (q : Int → Prop) (x : XM) : Nat → Int → Int → Int → Int → Prop
  | 0, _, _, _, _ => False
  | n + 1, v1, v2, v3, v4 =>
  M_X0_count x 3  (fun z1 => ((z1 ≤ v4 → q v3) ∧ (¬ (z1 ≤ v4) → M_X0_unlikeMarks x v1 v4  (fun z3 => ((¬ z3 = v2 → (Rg (v4 + 1)) ∧ (M_X0_causesWithSlips_5 q x n) v1 v2 v3 (v4 + 1)) ∧ (z3 = v2 → (Rg (v4 + 1)) ∧ (M_X0_causesWithSlips_5 q x n) v1 v2 (jor v3 (jshl 1 v4)) (v4 + 1)))))))
def M_X0_causesWithSlips (x : XM) (v1 : Int) (v2 : Int) (q : Int → Prop) : Prop :=
  ∃ m : Nat, M_X0_causesWithSlips_5 q x m v1 v2 0 0
set_option maxRecDepth 100000 in
theorem w_X0_causesWithSlips_5 {Γ : GE} {q : Int → Prop} {x : XM} (hx : WX x) : ∀ (n : Nat) (v1 : Int) (v2 : Int) (v3 : Int) (v4 : Int) , Rg v1 → Rg v2 → Rg v3 → Rg v4 → M_X0_causesWithSlips_5 q x n v1 v2 v3 v4 → V Γ 3 NF NF D_X0_causesWithSlips (QI Γ x q) 5 [.ref (gB Γ + 3), vI v1, vI v2, vI v3, vI v4] [] NF (mk Γ x) := by
  intro n
  induction n with
  | zero =>
    intro v1 v2 v3 v4 r1 r2 r3 r4 h
    rw [M_X0_causesWithSlips_5.eq_1] at h
    exact h.elim
  | succ n ih =>
    intro v1 v2 v3 v4 r1 r2 r3 r4 h
    rw [M_X0_causesWithSlips_5.eq_2] at h
    refine V_iload_4 dX0_causesWithSlips_5 ?_
    refine V_aload_0 dX0_causesWithSlips_7 ?_
    refine V_iconst dX0_causesWithSlips_8 ?_
    refine V_cVI1 (My := D_X0_count) dX0_causesWithSlips_9 ml_Bench_29 ce_X0_count ly_3 (by decide) cl_0 (by decide) (Nat.le_refl _) (Nat.le_refl _) (by decide) (sumL rfl) (w_X0_count hx (rgL rfl) h) (fun z1 hz1 h => ?_)
    refine V_icmp_ge 39 dX0_causesWithSlips_12 (by decide) r4 hz1 ⟨fun c2 => ?_, fun c2 => ?_⟩
    · have h := h.1 c2
      refine V_iload_3 dX0_causesWithSlips_39 ?_
      exact V_ireturn dX0_causesWithSlips_40 rfl ⟨rfl, _, rfl, r3, h⟩
    · have h := h.2 c2
      refine V_aload_0 dX0_causesWithSlips_15 ?_
      refine V_iload_1 dX0_causesWithSlips_16 ?_
      refine V_iload_4 dX0_causesWithSlips_17 ?_
      refine V_cVI2 (My := D_X0_unlikeMarks) dX0_causesWithSlips_19 ml_Bench_99 ce_X0_unlikeMarks ly_3 (by decide) cl_0 (by decide) (Nat.le_refl _) (Nat.le_refl _) (by decide) (sumL rfl) (w_X0_unlikeMarks hx r1 r4 h) (fun z3 hz3 h => ?_)
      refine V_iload_2 dX0_causesWithSlips_22 ?_
      refine V_icmp_ne 33 dX0_causesWithSlips_23 (by decide) hz3 r2 ⟨fun c4 => ?_, fun c4 => ?_⟩
      · have h := h.1 c4
        refine V_iinc_4 (a4 := uu) dX0_causesWithSlips_33 rfl ?_
        refine V_goto 5 dX0_causesWithSlips_36 (by decide) ?_
        obtain ⟨g5, h⟩ := h
        exact ih _ _ _ _ r1 r2 r3 g5 h
      · have h := h.2 c4
        refine V_iload_3 dX0_causesWithSlips_26 ?_
        refine V_iconst dX0_causesWithSlips_27 ?_
        refine V_iload_4 dX0_causesWithSlips_28 ?_
        refine V_ishl dX0_causesWithSlips_30 ?_
        refine V_ior dX0_causesWithSlips_31 ?_
        refine V_istore_3 dX0_causesWithSlips_32 rfl rfl ?_
        refine V_iinc_4 (a4 := uu) dX0_causesWithSlips_33 rfl ?_
        refine V_goto 5 dX0_causesWithSlips_36 (by decide) ?_
        obtain ⟨g6, h⟩ := h
        exact ih _ _ _ _ r1 r2 (Rg.of _) g6 h
set_option maxRecDepth 100000 in
theorem w_X0_causesWithSlips {Γ : GE} {x : XM} (hx : WX x) {v1 v2 : Int} {q : Int → Prop} (r1 : Rg v1) (r2 : Rg v2) (h : M_X0_causesWithSlips x v1 v2 q) : CV Γ 3 NF NF D_X0_causesWithSlips [.ref (gB Γ + 3), vI v1, vI v2] (mk Γ x) (QI Γ x q) := by
  refine CV.of rfl (cat_all rfl) (Nat.le_of_ble_eq_true rfl) ?_
  show V Γ 3 NF NF D_X0_causesWithSlips (QI Γ x q) 0 [.ref (gB Γ + 3), vI v1, vI v2, uu, uu] [] NF (mk Γ x)
  unfold M_X0_causesWithSlips at h
  refine V_iconst dX0_causesWithSlips_0 ?_
  refine V_istore_3 dX0_causesWithSlips_1 rfl rfl ?_
  refine V_iconst dX0_causesWithSlips_2 ?_
  refine V_istore_4 dX0_causesWithSlips_3 rfl rfl ?_
  obtain ⟨m9, h⟩ := h
  exact w_X0_causesWithSlips_5 hx m9 _ _ _ _ r1 r2 (rgL rfl) (rgL rfl) h
def M_X10_undid (x : XM) (v1 : Int) (v2 : Int) (q : Int → Prop) : Prop :=
  M_X10_isThere x 1 v1  (fun z1 => ((¬ z1 = 0 → ((v2 < 0 → q (-1000000002)) ∧ (¬ (v2 < 0) → ((v2 ≤ 2 → M_X0_fewestSlips x v1  (fun z5 => ((¬ v2 = 1 → M_X0_causesWithSlips x v1 z5  (fun z7 => ((¬ v2 = 0 → M_J6_bitCount_0f7a4 x z7  (fun z9 => ((¬ z9 = 1 → q (-1)) ∧ (z9 = 1 → M_J6_numberOfTrailingZeros_0f7a4 x z7  (fun z11 => q z11))))) ∧ (v2 = 0 → q z7)))) ∧ (v2 = 1 → q z5)))) ∧ (¬ (v2 ≤ 2) → q (-1000000002)))))) ∧ (z1 = 0 → q (-1000000001))))
set_option maxRecDepth 100000 in
theorem w_X10_undid {Γ : GE} {x : XM} (hx : WX x) {v1 v2 : Int} {q : Int → Prop} (r1 : Rg v1) (r2 : Rg v2) (h : M_X10_undid x v1 v2 q) : CV Γ 4 NF NF D_X10_undid [.ref (gB Γ + 0), vI v1, vI v2] (mk Γ x) (QI Γ x q) := by
  refine CV.of rfl (cat_all rfl) (Nat.le_of_ble_eq_true rfl) ?_
  show V Γ 4 NF NF D_X10_undid (QI Γ x q) 0 [.ref (gB Γ + 0), vI v1, vI v2, uu, uu] [] NF (mk Γ x)
  unfold M_X10_undid at h
  refine V_aload_0 dX10_undid_0 ?_
  refine V_iconst dX10_undid_1 ?_
  refine V_iload_1 dX10_undid_2 ?_
  refine V_cVI2 (My := D_X10_isThere) dX10_undid_3 ml_T_149 ce_X10_isThere ly_0 (by decide) cl_10 (by decide) (Nat.le_refl _) (Nat.le_refl _) (by decide) (sumL rfl) (w_X10_isThere hx (rgL rfl) r1 h) (fun z1 hz1 h => ?_)
  refine V_if_ne 12 dX10_undid_6 (by decide) hz1 ⟨fun c2 => ?_, fun c2 => ?_⟩
  · have h := h.1 c2
    refine V_iload_2 dX10_undid_12 ?_
    refine V_if_lt 21 dX10_undid_13 (by decide) r2 ⟨fun c3 => ?_, fun c3 => ?_⟩
    · have h := h.1 c3
      refine V_ldc dX10_undid_21 kc_T_78 ?_
      exact V_ireturn dX10_undid_23 rfl ⟨rfl, _, rfl, (rgL rfl), h⟩
    · have h := h.2 c3
      refine V_iload_2 dX10_undid_16 ?_
      refine V_iconst dX10_undid_17 ?_
      refine V_icmp_le 24 dX10_undid_18 (by decide) r2 (rgL rfl) ⟨fun c4 => ?_, fun c4 => ?_⟩
      · have h := h.1 c4
        refine V_aload_0 dX10_undid_24 ?_
        refine V_gR dX10_undid_25 fl_T_19 ly_0 (by decide) wr_0_1 ?_
        refine V_iload_1 dX10_undid_28 ?_
        refine V_cVI1 (My := D_X0_fewestSlips) dX10_undid_29 ml_T_245 ce_X0_fewestSlips ly_3 (by decide) cl_0 (by decide) (Nat.le_refl _) (Nat.le_refl _) (by decide) (sumL rfl) (w_X0_fewestSlips hx r1 h) (fun z5 hz5 h => ?_)
        refine V_istore_3 dX10_undid_32 rfl rfl ?_
        refine V_iload_2 dX10_undid_33 ?_
        refine V_iconst dX10_undid_34 ?_
        refine V_icmp_ne 40 dX10_undid_35 (by decide) r2 (rgL rfl) ⟨fun c6 => ?_, fun c6 => ?_⟩
        · have h := h.1 c6
          refine V_aload_0 dX10_undid_40 ?_
          refine V_gR dX10_undid_41 fl_T_19 ly_0 (by decide) wr_0_1 ?_
          refine V_iload_1 dX10_undid_44 ?_
          refine V_iload_3 dX10_undid_45 ?_
          refine V_cVI2 (My := D_X0_causesWithSlips) dX10_undid_46 ml_T_248 ce_X0_causesWithSlips ly_3 (by decide) cl_0 (by decide) (Nat.le_refl _) (Nat.le_refl _) (by decide) (sumL rfl) (w_X0_causesWithSlips hx r1 hz5 h) (fun z7 hz7 h => ?_)
          refine V_istore_4 dX10_undid_49 rfl rfl ?_
          refine V_iload_2 dX10_undid_51 ?_
          refine V_if_ne 58 dX10_undid_52 (by decide) r2 ⟨fun c8 => ?_, fun c8 => ?_⟩
          · have h := h.1 c8
            refine V_iload_4 dX10_undid_58 ?_
            refine V_cSI1 (My := D_J6_bitCount_0f7a4) dX10_undid_60 ml_T_201 ce_J6_bitCount_0f7a4 (Nat.le_refl _) (Nat.le_refl _) (by decide) (sumL rfl) (w_J6_bitCount_0f7a4 hx hz7 h) (fun z9 hz9 h => ?_)
            refine V_iconst dX10_undid_63 ?_
            refine V_icmp_ne 75 dX10_undid_64 (by decide) hz9 (rgL rfl) ⟨fun c10 => ?_, fun c10 => ?_⟩
            · have h := h.1 c10
              refine V_iconst dX10_undid_75 ?_
              exact V_ireturn dX10_undid_76 rfl ⟨rfl, _, rfl, (rgL rfl), h⟩
            · have h := h.2 c10
              refine V_iload_4 dX10_undid_67 ?_
              refine V_cSI1 (My := D_J6_numberOfTrailingZeros_0f7a4) dX10_undid_69 ml_T_251 ce_J6_numberOfTrailingZeros_0f7a4 (Nat.le_refl _) (Nat.le_refl _) (by decide) (sumL rfl) (w_J6_numberOfTrailingZeros_0f7a4 hx hz7 h) (fun z11 hz11 h => ?_)
              refine V_goto 76 dX10_undid_72 (by decide) ?_
              exact V_ireturn dX10_undid_76 rfl ⟨rfl, _, rfl, hz11, h⟩
          · have h := h.2 c8
            refine V_iload_4 dX10_undid_55 ?_
            exact V_ireturn dX10_undid_57 rfl ⟨rfl, _, rfl, hz7, h⟩
        · have h := h.2 c6
          refine V_iload_3 dX10_undid_38 ?_
          exact V_ireturn dX10_undid_39 rfl ⟨rfl, _, rfl, hz5, h⟩
      · have h := h.2 c4
        refine V_ldc dX10_undid_21 kc_T_78 ?_
        exact V_ireturn dX10_undid_23 rfl ⟨rfl, _, rfl, (rgL rfl), h⟩
  · have h := h.2 c2
    refine V_ldc dX10_undid_9 kc_T_153 ?_
    exact V_ireturn dX10_undid_11 rfl ⟨rfl, _, rfl, (rgL rfl), h⟩
def M_X11_undid_107 (q : Int → Prop) (K34 : Int → Int → Int → Int → Int → Int → Prop) (x : XM) (v1 : Int) (v2 : Int) (v3 : Int) (v4 : Int) (v6 : Int) (v7 : Int) (s0 : Int) : Prop :=
  ((v3 = (-1) → (Rg (v6 + 1)) ∧ K34 v1 v2 v7 v4 s0 (v6 + 1)) ∧ (¬ v3 = (-1) → ((v3 ≤ v7 → (Rg (v6 + 1)) ∧ K34 v1 v2 v3 v4 s0 (v6 + 1)) ∧ (¬ (v3 ≤ v7) → (Rg (v6 + 1)) ∧ K34 v1 v2 v7 v4 s0 (v6 + 1)))))
def M_X11_undid_88 (q : Int → Prop) (K34 : Int → Int → Int → Int → Int → Int → Prop) (x : XM) (v1 : Int) (v2 : Int) (v3 : Int) (v5 : Int) (v6 : Int) (v7 : Int) (s0 : Int) : Prop :=
  M_X11_has x s0 v6  (fun z12 => ((z12 = 0 → M_X11_undid_107 q K34 x v1 v2 v3 s0 v6 v7 v5) ∧ (¬ z12 = 0 → M_X11_undid_107 q K34 x v1 v2 v3 s0 v6 v7 v6)))
def M_X11_undid_63 (q : Int → Prop) (K34 : Int → Int → Int → Int → Int → Int → Prop) (x : XM) (v1 : Int) (v2 : Int) (v3 : Int) (v5 : Int) (v6 : Int) (v7 : Int) : Prop :=
  M_X11_undid_88 q K34 x v1 v2 v3 v5 v6 v7 (jshl 1 v6)
def M_X11_undid_34 (q : Int → Prop) (x : XM) : Nat → Int → Int → Int → Int → Int → Int → Prop
  | 0, _, _, _, _, _, _ => False
  | n + 1, v1, v2, v3, v4, v5, v6 =>
  (((x 83 7) ≤ v6 → ((¬ v2 = 0 → ((¬ v2 = 1 → M_X11_bitsOf x v4  (fun z8 => ((¬ z8 = 1 → q (-1)) ∧ (z8 = 1 → q v5)))) ∧ (v2 = 1 → q v3))) ∧ (v2 = 0 → q v4))) ∧ (¬ ((x 83 7) ≤ v6) → M_X11_slipsOf x v1 v6  (fun z10 => ((v3 = (-1) → M_X11_undid_63 q (M_X11_undid_34 q x n) x v1 v2 v3 v5 v6 z10) ∧ (¬ v3 = (-1) → ((v3 ≤ z10 → ((¬ z10 = v3 → M_X11_undid_88 q (M_X11_undid_34 q x n) x v1 v2 v3 v5 v6 z10 v4) ∧ (z10 = v3 → M_X11_undid_88 q (M_X11_undid_34 q x n) x v1 v2 v3 v5 v6 z10 (jor v4 (jshl 1 v6))))) ∧ (¬ (v3 ≤ z10) → M_X11_undid_63 q (M_X11_undid_34 q x n) x v1 v2 v3 v5 v6 z10)))))))
def M_X11_undid (x : XM) (v1 : Int) (v2 : Int) (q : Int → Prop) : Prop :=
  M_X11_isButton x v1  (fun z1 => ((¬ z1 = 0 → M_X11_in x v2 0 2  (fun z3 => ((¬ z3 = 0 → ∃ m : Nat, M_X11_undid_34 q x m v1 v2 (-1) 0 (-1) 0) ∧ (z3 = 0 → q (-1000000002))))) ∧ (z1 = 0 → q (-1000000001))))
set_option maxRecDepth 100000 in
theorem w_X11_undid_107 {Γ : GE} {q : Int → Prop} {K34 : Int → Int → Int → Int → Int → Int → Prop} {x : XM} (hx : WX x) (hK34 : ∀ (v1 : Int) (v2 : Int) (v3 : Int) (v4 : Int) (v5 : Int) (v6 : Int) , Rg v1 → Rg v2 → Rg v3 → Rg v4 → Rg v5 → Rg v6 → K34 v1 v2 v3 v4 v5 v6 → V Γ 2 NF NF D_X11_undid (QI Γ x q) 34 [.ref (gB Γ + 83), vI v1, vI v2, vI v3, vI v4, vI v5, vI v6, uu] [] NF (mk Γ x)) : ∀ (v1 : Int) (v2 : Int) (v3 : Int) (v4 : Int) (v6 : Int) (v7 : Int) (s0 : Int) , Rg v1 → Rg v2 → Rg v3 → Rg v4 → Rg v6 → Rg v7 → Rg s0 → M_X11_undid_107 q K34 x v1 v2 v3 v4 v6 v7 s0 → V Γ 2 NF NF D_X11_undid (QI Γ x q) 107 [.ref (gB Γ + 83), vI v1, vI v2, vI v3, vI v4, uu, vI v6, vI v7] [vI s0] NF (mk Γ x) := by
  intro v1 v2 v3 v4 v6 v7 s0 r1 r2 r3 r4 r6 r7 rs0 h
  unfold M_X11_undid_107 at h
  refine V_istore_5 dX11_undid_107 rfl rfl ?_
  refine V_iload_3 dX11_undid_109 ?_
  refine V_iconst dX11_undid_110 ?_
  refine V_icmp_eq 120 dX11_undid_111 (by decide) r3 (rgL rfl) ⟨fun c14 => ?_, fun c14 => ?_⟩
  · have h := h.1 c14
    refine V_iload_7 dX11_undid_120 ?_
    refine V_goto 126 dX11_undid_122 (by decide) ?_
    refine V_istore_3 dX11_undid_126 rfl rfl ?_
    refine V_iinc_6 (a6 := uu) dX11_undid_127 rfl ?_
    refine V_goto 34 dX11_undid_130 (by decide) ?_
    obtain ⟨g15, h⟩ := h
    refine V_fg_7 ?_
    exact hK34 _ _ _ _ _ _ r1 r2 r7 r4 rs0 g15 h
  · have h := h.2 c14
    refine V_iload_7 dX11_undid_114 ?_
    refine V_iload_3 dX11_undid_116 ?_
    refine V_icmp_ge 125 dX11_undid_117 (by decide) r7 r3 ⟨fun c16 => ?_, fun c16 => ?_⟩
    · have h := h.1 c16
      refine V_iload_3 dX11_undid_125 ?_
      refine V_istore_3 dX11_undid_126 rfl rfl ?_
      refine V_iinc_6 (a6 := uu) dX11_undid_127 rfl ?_
      refine V_goto 34 dX11_undid_130 (by decide) ?_
      obtain ⟨g17, h⟩ := h
      refine V_fg_7 ?_
      exact hK34 _ _ _ _ _ _ r1 r2 r3 r4 rs0 g17 h
    · have h := h.2 c16
      refine V_iload_7 dX11_undid_120 ?_
      refine V_goto 126 dX11_undid_122 (by decide) ?_
      refine V_istore_3 dX11_undid_126 rfl rfl ?_
      refine V_iinc_6 (a6 := uu) dX11_undid_127 rfl ?_
      refine V_goto 34 dX11_undid_130 (by decide) ?_
      obtain ⟨g18, h⟩ := h
      refine V_fg_7 ?_
      exact hK34 _ _ _ _ _ _ r1 r2 r7 r4 rs0 g18 h
set_option maxRecDepth 100000 in
theorem w_X11_undid_88 {Γ : GE} {q : Int → Prop} {K34 : Int → Int → Int → Int → Int → Int → Prop} {x : XM} (hx : WX x) (hK34 : ∀ (v1 : Int) (v2 : Int) (v3 : Int) (v4 : Int) (v5 : Int) (v6 : Int) , Rg v1 → Rg v2 → Rg v3 → Rg v4 → Rg v5 → Rg v6 → K34 v1 v2 v3 v4 v5 v6 → V Γ 2 NF NF D_X11_undid (QI Γ x q) 34 [.ref (gB Γ + 83), vI v1, vI v2, vI v3, vI v4, vI v5, vI v6, uu] [] NF (mk Γ x)) : ∀ (v1 : Int) (v2 : Int) (v3 : Int) (v5 : Int) (v6 : Int) (v7 : Int) (s0 : Int) , Rg v1 → Rg v2 → Rg v3 → Rg v5 → Rg v6 → Rg v7 → Rg s0 → M_X11_undid_88 q K34 x v1 v2 v3 v5 v6 v7 s0 → V Γ 2 NF NF D_X11_undid (QI Γ x q) 88 [.ref (gB Γ + 83), vI v1, vI v2, vI v3, uu, vI v5, vI v6, vI v7] [vI s0] NF (mk Γ x) := by
  intro v1 v2 v3 v5 v6 v7 s0 r1 r2 r3 r5 r6 r7 rs0 h
  unfold M_X11_undid_88 at h
  refine V_istore_4 dX11_undid_88 rfl rfl ?_
  refine V_iload_4 dX11_undid_90 ?_
  refine V_iload_6 dX11_undid_92 ?_
  refine V_cSI2 (My := D_X11_has) dX11_undid_94 ml_R_177 ce_X11_has (Nat.le_refl _) (Nat.le_refl _) (by decide) (sumL rfl) (w_X11_has hx rs0 r6 h) (fun z12 hz12 h => ?_)
  refine V_if_eq 105 dX11_undid_97 (by decide) hz12 ⟨fun c13 => ?_, fun c13 => ?_⟩
  · have h := h.1 c13
    refine V_iload_5 dX11_undid_105 ?_
    refine V_fg_5 ?_
    exact w_X11_undid_107 hx (hK34) _ _ _ _ _ _ _ r1 r2 r3 rs0 r6 r7 r5 h
  · have h := h.2 c13
    refine V_iload_6 dX11_undid_100 ?_
    refine V_goto 107 dX11_undid_102 (by decide) ?_
    refine V_fg_5 ?_
    exact w_X11_undid_107 hx (hK34) _ _ _ _ _ _ _ r1 r2 r3 rs0 r6 r7 r6 h
set_option maxRecDepth 100000 in
theorem w_X11_undid_63 {Γ : GE} {q : Int → Prop} {K34 : Int → Int → Int → Int → Int → Int → Prop} {x : XM} (hx : WX x) (hK34 : ∀ (v1 : Int) (v2 : Int) (v3 : Int) (v4 : Int) (v5 : Int) (v6 : Int) , Rg v1 → Rg v2 → Rg v3 → Rg v4 → Rg v5 → Rg v6 → K34 v1 v2 v3 v4 v5 v6 → V Γ 2 NF NF D_X11_undid (QI Γ x q) 34 [.ref (gB Γ + 83), vI v1, vI v2, vI v3, vI v4, vI v5, vI v6, uu] [] NF (mk Γ x)) : ∀ (v1 : Int) (v2 : Int) (v3 : Int) (v5 : Int) (v6 : Int) (v7 : Int) , Rg v1 → Rg v2 → Rg v3 → Rg v5 → Rg v6 → Rg v7 → M_X11_undid_63 q K34 x v1 v2 v3 v5 v6 v7 → V Γ 2 NF NF D_X11_undid (QI Γ x q) 63 [.ref (gB Γ + 83), vI v1, vI v2, vI v3, uu, vI v5, vI v6, vI v7] [] NF (mk Γ x) := by
  intro v1 v2 v3 v5 v6 v7 r1 r2 r3 r5 r6 r7 h
  unfold M_X11_undid_63 at h
  refine V_iconst dX11_undid_63 ?_
  refine V_iload_6 dX11_undid_64 ?_
  refine V_ishl dX11_undid_66 ?_
  refine V_goto 88 dX11_undid_67 (by decide) ?_
  exact w_X11_undid_88 hx (hK34) _ _ _ _ _ _ _ r1 r2 r3 r5 r6 r7 (Rg.of _) h
set_option maxRecDepth 100000 in
theorem w_X11_undid_34 {Γ : GE} {q : Int → Prop} {x : XM} (hx : WX x) : ∀ (n : Nat) (v1 : Int) (v2 : Int) (v3 : Int) (v4 : Int) (v5 : Int) (v6 : Int) , Rg v1 → Rg v2 → Rg v3 → Rg v4 → Rg v5 → Rg v6 → M_X11_undid_34 q x n v1 v2 v3 v4 v5 v6 → V Γ 2 NF NF D_X11_undid (QI Γ x q) 34 [.ref (gB Γ + 83), vI v1, vI v2, vI v3, vI v4, vI v5, vI v6, uu] [] NF (mk Γ x) := by
  intro n
  induction n with
  | zero =>
    intro v1 v2 v3 v4 v5 v6 r1 r2 r3 r4 r5 r6 h
    rw [M_X11_undid_34.eq_1] at h
    exact h.elim
  | succ n ih =>
    intro v1 v2 v3 v4 v5 v6 r1 r2 r3 r4 r5 r6 h
    rw [M_X11_undid_34.eq_2] at h
    refine V_iload_6 dX11_undid_34 ?_
    refine V_aload_0 dX11_undid_36 ?_
    refine V_gI dX11_undid_37 fl_R_151 ly_83 (by decide) wn_83_7 ?_
    refine V_icmp_ge 133 dX11_undid_40 (by decide) r6 (hx _ _) ⟨fun c5 => ?_, fun c5 => ?_⟩
    · have h := h.1 c5
      refine V_iload_2 dX11_undid_133 ?_
      refine V_if_ne 142 dX11_undid_134 (by decide) r2 ⟨fun c6 => ?_, fun c6 => ?_⟩
      · have h := h.1 c6
        refine V_iload_2 dX11_undid_142 ?_
        refine V_iconst dX11_undid_143 ?_
        refine V_icmp_ne 151 dX11_undid_144 (by decide) r2 (rgL rfl) ⟨fun c7 => ?_, fun c7 => ?_⟩
        · have h := h.1 c7
          refine V_iload_4 dX11_undid_151 ?_
          refine V_cSI1 (My := D_X11_bitsOf) dX11_undid_153 ml_R_233 ce_X11_bitsOf (Nat.le_refl _) (Nat.le_refl _) (by decide) (sumL rfl) (w_X11_bitsOf hx r4 h) (fun z8 hz8 h => ?_)
          refine V_iconst dX11_undid_156 ?_
          refine V_icmp_ne 165 dX11_undid_157 (by decide) hz8 (rgL rfl) ⟨fun c9 => ?_, fun c9 => ?_⟩
          · have h := h.1 c9
            refine V_iconst dX11_undid_165 ?_
            exact V_ireturn dX11_undid_166 rfl ⟨rfl, _, rfl, (rgL rfl), h⟩
          · have h := h.2 c9
            refine V_iload_5 dX11_undid_160 ?_
            refine V_goto 166 dX11_undid_162 (by decide) ?_
            exact V_ireturn dX11_undid_166 rfl ⟨rfl, _, rfl, r5, h⟩
        · have h := h.2 c7
          refine V_iload_3 dX11_undid_147 ?_
          refine V_goto 166 dX11_undid_148 (by decide) ?_
          exact V_ireturn dX11_undid_166 rfl ⟨rfl, _, rfl, r3, h⟩
      · have h := h.2 c6
        refine V_iload_4 dX11_undid_137 ?_
        refine V_goto 166 dX11_undid_139 (by decide) ?_
        exact V_ireturn dX11_undid_166 rfl ⟨rfl, _, rfl, r4, h⟩
    · have h := h.2 c5
      refine V_aload_0 dX11_undid_43 ?_
      refine V_iload_1 dX11_undid_44 ?_
      refine V_iload_6 dX11_undid_45 ?_
      refine V_cVI2 (My := D_X11_slipsOf) dX11_undid_47 ml_R_274 ce_X11_slipsOf ly_83 (by decide) cl_11 (by decide) (Nat.le_refl _) (Nat.le_refl _) (by decide) (sumL rfl) (w_X11_slipsOf hx r1 r6 h) (fun z10 hz10 h => ?_)
      refine V_istore_7 dX11_undid_50 rfl rfl ?_
      refine V_iload_3 dX11_undid_52 ?_
      refine V_iconst dX11_undid_53 ?_
      refine V_icmp_eq 63 dX11_undid_54 (by decide) r3 (rgL rfl) ⟨fun c11 => ?_, fun c11 => ?_⟩
      · have h := h.1 c11
        refine V_fg_4 ?_
        exact w_X11_undid_63 hx (ih) _ _ _ _ _ _ r1 r2 r3 r5 r6 hz10 h
      · have h := h.2 c11
        refine V_iload_7 dX11_undid_57 ?_
        refine V_iload_3 dX11_undid_59 ?_
        refine V_icmp_ge 70 dX11_undid_60 (by decide) hz10 r3 ⟨fun c19 => ?_, fun c19 => ?_⟩
        · have h := h.1 c19
          refine V_iload_7 dX11_undid_70 ?_
          refine V_iload_3 dX11_undid_72 ?_
          refine V_icmp_ne 86 dX11_undid_73 (by decide) hz10 r3 ⟨fun c20 => ?_, fun c20 => ?_⟩
          · have h := h.1 c20
            refine V_iload_4 dX11_undid_86 ?_
            refine V_fg_4 ?_
            exact w_X11_undid_88 hx (ih) _ _ _ _ _ _ _ r1 r2 r3 r5 r6 hz10 r4 h
          · have h := h.2 c20
            refine V_iload_4 dX11_undid_76 ?_
            refine V_iconst dX11_undid_78 ?_
            refine V_iload_6 dX11_undid_79 ?_
            refine V_ishl dX11_undid_81 ?_
            refine V_ior dX11_undid_82 ?_
            refine V_goto 88 dX11_undid_83 (by decide) ?_
            refine V_fg_4 ?_
            exact w_X11_undid_88 hx (ih) _ _ _ _ _ _ _ r1 r2 r3 r5 r6 hz10 (Rg.of _) h
        · have h := h.2 c19
          refine V_fg_4 ?_
          exact w_X11_undid_63 hx (ih) _ _ _ _ _ _ r1 r2 r3 r5 r6 hz10 h
set_option maxRecDepth 100000 in
theorem w_X11_undid {Γ : GE} {x : XM} (hx : WX x) {v1 v2 : Int} {q : Int → Prop} (r1 : Rg v1) (r2 : Rg v2) (h : M_X11_undid x v1 v2 q) : CV Γ 2 NF NF D_X11_undid [.ref (gB Γ + 83), vI v1, vI v2] (mk Γ x) (QI Γ x q) := by
  refine CV.of rfl (cat_all rfl) (Nat.le_of_ble_eq_true rfl) ?_
  show V Γ 2 NF NF D_X11_undid (QI Γ x q) 0 [.ref (gB Γ + 83), vI v1, vI v2, uu, uu, uu, uu, uu] [] NF (mk Γ x)
  unfold M_X11_undid at h
  refine V_aload_0 dX11_undid_0 ?_
  refine V_iload_1 dX11_undid_1 ?_
  refine V_cVI1 (My := D_X11_isButton) dX11_undid_2 ml_R_201 ce_X11_isButton ly_83 (by decide) cl_11 (by decide) (Nat.le_refl _) (Nat.le_refl _) (by decide) (sumL rfl) (w_X11_isButton hx r1 h) (fun z1 hz1 h => ?_)
  refine V_if_ne 11 dX11_undid_5 (by decide) hz1 ⟨fun c2 => ?_, fun c2 => ?_⟩
  · have h := h.1 c2
    refine V_iload_2 dX11_undid_11 ?_
    refine V_iconst dX11_undid_12 ?_
    refine V_iconst dX11_undid_13 ?_
    refine V_cSI3 (My := D_X11_in) dX11_undid_14 ml_R_73 ce_X11_in (Nat.le_refl _) (Nat.le_refl _) (by decide) (sumL rfl) (w_X11_in hx r2 (rgL rfl) (rgL rfl) h) (fun z3 hz3 h => ?_)
    refine V_if_ne 23 dX11_undid_17 (by decide) hz3 ⟨fun c4 => ?_, fun c4 => ?_⟩
    · have h := h.1 c4
      refine V_iconst dX11_undid_23 ?_
      refine V_istore_3 dX11_undid_24 rfl rfl ?_
      refine V_iconst dX11_undid_25 ?_
      refine V_istore_4 dX11_undid_26 rfl rfl ?_
      refine V_iconst dX11_undid_28 ?_
      refine V_istore_5 dX11_undid_29 rfl rfl ?_
      refine V_iconst dX11_undid_31 ?_
      refine V_istore_6 dX11_undid_32 rfl rfl ?_
      obtain ⟨m9, h⟩ := h
      exact w_X11_undid_34 hx m9 _ _ _ _ _ _ r1 r2 (rgL rfl) (rgL rfl) (rgL rfl) (rgL rfl) h
    · have h := h.2 c4
      refine V_ldc dX11_undid_20 kc_R_77 ?_
      exact V_ireturn dX11_undid_22 rfl ⟨rfl, _, rfl, (rgL rfl), h⟩
  · have h := h.2 c2
    refine V_ldc dX11_undid_8 kc_R_205 ?_
    exact V_ireturn dX11_undid_10 rfl ⟨rfl, _, rfl, (rgL rfl), h⟩
def M_J9_abs_0f7a4 (x : XM) (v0 : Int) (q : Int → Prop) : Prop :=
  ((0 ≤ v0 → q v0) ∧ (¬ (0 ≤ v0) → (Rg (-v0)) ∧ q (-v0)))
set_option maxRecDepth 100000 in
theorem w_J9_abs_0f7a4 {Γ : GE} {x : XM} (hx : WX x) {v0 : Int} {q : Int → Prop} (r0 : Rg v0) (h : M_J9_abs_0f7a4 x v0 q) : CV Γ 0 NF NF D_J9_abs_0f7a4 [vI v0] (mk Γ x) (QI Γ x q) := by
  refine CV.ofF (by decide +kernel) (cat_all rfl) (Nat.le_of_ble_eq_true rfl) ?_
  show V Γ 0 NF NF D_J9_abs_0f7a4 (QI Γ x q) 0 [vI v0] [] NF (mk Γ x)
  unfold M_J9_abs_0f7a4 at h
  refine V_iload_0 dJ9_abs_0f7a4_0 ?_
  refine V_if_ge 9 dJ9_abs_0f7a4_1 (by decide) r0 ⟨fun c1 => ?_, fun c1 => ?_⟩
  · have h := h.1 c1
    refine V_iload_0 dJ9_abs_0f7a4_9 ?_
    exact V_ireturn dJ9_abs_0f7a4_10 rfl ⟨rfl, _, rfl, r0, h⟩
  · have h := h.2 c1
    refine V_iload_0 dJ9_abs_0f7a4_4 ?_
    refine V_ineg dJ9_abs_0f7a4_5 ?_
    refine V_goto 10 dJ9_abs_0f7a4_6 (by decide) ?_
    obtain ⟨g2, h⟩ := h
    exact V_ireturn dJ9_abs_0f7a4_10 rfl ⟨rfl, _, rfl, g2, h⟩
def M_X0_leastChange_88 (q : Int → Prop) (K18 : Int → Int → Int → Int → Prop) (x : XM) (v1 : Int) (v4 : Int) (v5 : Int) (v6 : Int) (v7 : Int) : Prop :=
  (Rg ((10 * v5) + v6)) ∧ (Rg (v4 + 1)) ∧ K18 v1 ((10 * v5) + v6) v7 (v4 + 1)
def M_X0_leastChange_18 (q : Int → Prop) (x : XM) : Nat → Int → Int → Int → Int → Prop
  | 0, _, _, _, _ => False
  | n + 1, v1, v2, v3, v4 =>
  M_X0_count x 2  (fun z3 => ((z3 ≤ v4 → q v2) ∧ (¬ (z3 ≤ v4) → (0 ≤ v4 ∧ v4 < 6) ∧ M_X9_value (x 3 1) x 2 (x 6 (v4.toNat)) 0  (fun z6 => M_X0_mark x v1 z6  (fun z7 => M_X9_value (x 3 1) x 2 (x 6 (v4.toNat)) 2  (fun z8 => (Rg (z7 - z8)) ∧ M_J9_abs_0f7a4 x (z7 - z8)  (fun z10 => ((v2 = (-1) → M_X0_leastChange_88 q (M_X0_leastChange_18 q x n) x v1 v4 (x 6 (v4.toNat)) z7 z10) ∧ (¬ v2 = (-1) → ((v3 ≤ z10 → (Rg (v4 + 1)) ∧ (M_X0_leastChange_18 q x n) v1 v2 v3 (v4 + 1)) ∧ (¬ (v3 ≤ z10) → M_X0_leastChange_88 q (M_X0_leastChange_18 q x n) x v1 v4 (x 6 (v4.toNat)) z7 z10)))))))))))
def M_X0_leastChange (x : XM) (v1 : Int) (q : Int → Prop) : Prop :=
  M_X0_goal x v1  (fun z1 => ((z1 = (-1) → ∃ m : Nat, M_X0_leastChange_18 q x m v1 (-1) 0 0) ∧ (¬ z1 = (-1) → q (-1))))
set_option maxRecDepth 100000 in
theorem w_X0_leastChange_88 {Γ : GE} {q : Int → Prop} {K18 : Int → Int → Int → Int → Prop} {x : XM} (hx : WX x) (hK18 : ∀ (v1 : Int) (v2 : Int) (v3 : Int) (v4 : Int) , Rg v1 → Rg v2 → Rg v3 → Rg v4 → K18 v1 v2 v3 v4 → V Γ 4 NF NF D_X0_leastChange (QI Γ x q) 18 [.ref (gB Γ + 3), vI v1, vI v2, vI v3, vI v4, uu, uu, uu] [] NF (mk Γ x)) : ∀ (v1 : Int) (v4 : Int) (v5 : Int) (v6 : Int) (v7 : Int) , Rg v1 → Rg v4 → Rg v5 → Rg v6 → Rg v7 → M_X0_leastChange_88 q K18 x v1 v4 v5 v6 v7 → V Γ 4 NF NF D_X0_leastChange (QI Γ x q) 88 [.ref (gB Γ + 3), vI v1, uu, uu, vI v4, vI v5, vI v6, vI v7] [] NF (mk Γ x) := by
  intro v1 v4 v5 v6 v7 r1 r4 r5 r6 r7 h
  unfold M_X0_leastChange_88 at h
  refine V_iload_7 dX0_leastChange_88 ?_
  refine V_istore_3 dX0_leastChange_90 rfl rfl ?_
  refine V_bipush dX0_leastChange_91 (by decide) ?_
  refine V_iload_5 dX0_leastChange_93 ?_
  refine V_imul dX0_leastChange_95 ?_
  refine V_iload_6 dX0_leastChange_96 ?_
  refine V_iadd dX0_leastChange_98 ?_
  refine V_istore_2 dX0_leastChange_99 rfl rfl ?_
  refine V_iinc_4 (a4 := uu) dX0_leastChange_100 rfl ?_
  refine V_goto 18 dX0_leastChange_103 (by decide) ?_
  obtain ⟨g12, h⟩ := h
  obtain ⟨g13, h⟩ := h
  refine V_fg_5 ?_
  refine V_fg_6 ?_
  refine V_fg_7 ?_
  exact hK18 _ _ _ _ r1 g12 r7 g13 h
set_option maxRecDepth 100000 in
theorem w_X0_leastChange_18 {Γ : GE} {q : Int → Prop} {x : XM} (hx : WX x) : ∀ (n : Nat) (v1 : Int) (v2 : Int) (v3 : Int) (v4 : Int) , Rg v1 → Rg v2 → Rg v3 → Rg v4 → M_X0_leastChange_18 q x n v1 v2 v3 v4 → V Γ 4 NF NF D_X0_leastChange (QI Γ x q) 18 [.ref (gB Γ + 3), vI v1, vI v2, vI v3, vI v4, uu, uu, uu] [] NF (mk Γ x) := by
  intro n
  induction n with
  | zero =>
    intro v1 v2 v3 v4 r1 r2 r3 r4 h
    rw [M_X0_leastChange_18.eq_1] at h
    exact h.elim
  | succ n ih =>
    intro v1 v2 v3 v4 r1 r2 r3 r4 h
    rw [M_X0_leastChange_18.eq_2] at h
    refine V_iload_4 dX0_leastChange_18 ?_
    refine V_aload_0 dX0_leastChange_20 ?_
    refine V_iconst dX0_leastChange_21 ?_
    refine V_cVI1 (My := D_X0_count) dX0_leastChange_22 ml_Bench_29 ce_X0_count ly_3 (by decide) cl_0 (by decide) (Nat.le_refl _) (Nat.le_refl _) (by decide) (sumL rfl) (w_X0_count hx (rgL rfl) h) (fun z3 hz3 h => ?_)
    refine V_icmp_ge 106 dX0_leastChange_25 (by decide) r4 hz3 ⟨fun c4 => ?_, fun c4 => ?_⟩
    · have h := h.1 c4
      refine V_iload_2 dX0_leastChange_106 ?_
      exact V_ireturn dX0_leastChange_107 rfl ⟨rfl, _, rfl, r2, h⟩
    · have h := h.2 c4
      refine V_aload_0 dX0_leastChange_28 ?_
      refine V_gR dX0_leastChange_29 fl_Bench_12 ly_3 (by decide) wr_3_0 ?_
      refine V_gR dX0_leastChange_32 fl_Bench_63 ly_4 (by decide) (r := 6) (clo_w1 (k := 4) rfl) ?_
      refine V_iload_4 dX0_leastChange_35 ?_
      obtain ⟨g5, h⟩ := h
      refine V_aI dX0_leastChange_37 ly_6 (by decide) (by decide) g5 ?_
      refine V_istore_5 dX0_leastChange_38 rfl rfl ?_
      refine V_aload_0 dX0_leastChange_40 ?_
      refine V_iload_1 dX0_leastChange_41 ?_
      refine V_aload_0 dX0_leastChange_42 ?_
      refine V_gR dX0_leastChange_43 fl_Bench_21 ly_3 (by decide) wr_3_1 ?_
      refine V_iconst dX0_leastChange_46 ?_
      refine V_iload_5 dX0_leastChange_47 ?_
      refine V_iconst dX0_leastChange_49 ?_
      refine V_cVI3 (My := D_X9_value) dX0_leastChange_50 ml_Bench_32 ce_X9_value (tid_f (x 3 1)).1 (by decide) cl_9 (tid_b0 (x 3 1)) (Nat.le_refl _) (Nat.le_refl _) (by decide) (sumL rfl) (w_X9_value hx (rgL rfl) (hx _ _) (rgL rfl) h) (fun z6 hz6 h => ?_)
      refine V_cVI2 (My := D_X0_mark) dX0_leastChange_53 ml_Bench_40 ce_X0_mark ly_3 (by decide) cl_0 (by decide) (Nat.le_refl _) (Nat.le_refl _) (by decide) (sumL rfl) (w_X0_mark hx r1 hz6 h) (fun z7 hz7 h => ?_)
      refine V_istore_6 dX0_leastChange_56 rfl rfl ?_
      refine V_iload_6 dX0_leastChange_58 ?_
      refine V_aload_0 dX0_leastChange_60 ?_
      refine V_gR dX0_leastChange_61 fl_Bench_21 ly_3 (by decide) wr_3_1 ?_
      refine V_iconst dX0_leastChange_64 ?_
      refine V_iload_5 dX0_leastChange_65 ?_
      refine V_iconst dX0_leastChange_67 ?_
      refine V_cVI3 (My := D_X9_value) dX0_leastChange_68 ml_Bench_32 ce_X9_value (tid_f (x 3 1)).1 (by decide) cl_9 (tid_b0 (x 3 1)) (Nat.le_refl _) (Nat.le_refl _) (by decide) (sumL rfl) (w_X9_value hx (rgL rfl) (hx _ _) (rgL rfl) h) (fun z8 hz8 h => ?_)
      refine V_isub dX0_leastChange_71 ?_
      obtain ⟨g9, h⟩ := h
      refine V_cSI1 (My := D_J9_abs_0f7a4) dX0_leastChange_72 ml_Bench_102 ce_J9_abs_0f7a4 (Nat.le_refl _) (Nat.le_refl _) (by decide) (sumL rfl) (w_J9_abs_0f7a4 hx g9 h) (fun z10 hz10 h => ?_)
      refine V_istore_7 dX0_leastChange_75 rfl rfl ?_
      refine V_iload_2 dX0_leastChange_77 ?_
      refine V_iconst dX0_leastChange_78 ?_
      refine V_icmp_eq 88 dX0_leastChange_79 (by decide) r2 (rgL rfl) ⟨fun c11 => ?_, fun c11 => ?_⟩
      · have h := h.1 c11
        refine V_fg_2 ?_
        refine V_fg_3 ?_
        exact w_X0_leastChange_88 hx (ih) _ _ _ _ _ r1 r4 (hx _ _) hz7 hz10 h
      · have h := h.2 c11
        refine V_iload_7 dX0_leastChange_82 ?_
        refine V_iload_3 dX0_leastChange_84 ?_
        refine V_icmp_ge 100 dX0_leastChange_85 (by decide) hz10 r3 ⟨fun c14 => ?_, fun c14 => ?_⟩
        · have h := h.1 c14
          refine V_iinc_4 (a4 := uu) dX0_leastChange_100 rfl ?_
          refine V_goto 18 dX0_leastChange_103 (by decide) ?_
          obtain ⟨g15, h⟩ := h
          refine V_fg_5 ?_
          refine V_fg_6 ?_
          refine V_fg_7 ?_
          exact ih _ _ _ _ r1 r2 r3 g15 h
        · have h := h.2 c14
          refine V_fg_2 ?_
          refine V_fg_3 ?_
          exact w_X0_leastChange_88 hx (ih) _ _ _ _ _ r1 r4 (hx _ _) hz7 hz10 h
set_option maxRecDepth 100000 in
theorem w_X0_leastChange {Γ : GE} {x : XM} (hx : WX x) {v1 : Int} {q : Int → Prop} (r1 : Rg v1) (h : M_X0_leastChange x v1 q) : CV Γ 4 NF NF D_X0_leastChange [.ref (gB Γ + 3), vI v1] (mk Γ x) (QI Γ x q) := by
  refine CV.of rfl (cat_all rfl) (Nat.le_of_ble_eq_true rfl) ?_
  show V Γ 4 NF NF D_X0_leastChange (QI Γ x q) 0 [.ref (gB Γ + 3), vI v1, uu, uu, uu, uu, uu, uu] [] NF (mk Γ x)
  unfold M_X0_leastChange at h
  refine V_aload_0 dX0_leastChange_0 ?_
  refine V_iload_1 dX0_leastChange_1 ?_
  refine V_cVI1 (My := D_X0_goal) dX0_leastChange_2 ml_Bench_73 ce_X0_goal ly_3 (by decide) cl_0 (by decide) (Nat.le_refl _) (Nat.le_refl _) (by decide) (sumL rfl) (w_X0_goal hx r1 h) (fun z1 hz1 h => ?_)
  refine V_iconst dX0_leastChange_5 ?_
  refine V_icmp_eq 11 dX0_leastChange_6 (by decide) hz1 (rgL rfl) ⟨fun c2 => ?_, fun c2 => ?_⟩
  · have h := h.1 c2
    refine V_iconst dX0_leastChange_11 ?_
    refine V_istore_2 dX0_leastChange_12 rfl rfl ?_
    refine V_iconst dX0_leastChange_13 ?_
    refine V_istore_3 dX0_leastChange_14 rfl rfl ?_
    refine V_iconst dX0_leastChange_15 ?_
    refine V_istore_4 dX0_leastChange_16 rfl rfl ?_
    obtain ⟨m9, h⟩ := h
    exact w_X0_leastChange_18 hx m9 _ _ _ _ r1 (rgL rfl) (rgL rfl) (rgL rfl) h
  · have h := h.2 c2
    refine V_iconst dX0_leastChange_9 ?_
    exact V_ireturn dX0_leastChange_10 rfl ⟨rfl, _, rfl, (rgL rfl), h⟩
def M_X10_change (x : XM) (v1 : Int) (q : Int → Prop) : Prop :=
  M_X10_isThere x 1 v1  (fun z1 => ((z1 = 0 → q (-1000000001)) ∧ (¬ z1 = 0 → M_X0_leastChange x v1  (fun z3 => q z3))))
set_option maxRecDepth 100000 in
theorem w_X10_change {Γ : GE} {x : XM} (hx : WX x) {v1 : Int} {q : Int → Prop} (r1 : Rg v1) (h : M_X10_change x v1 q) : CV Γ 5 NF NF D_X10_change [.ref (gB Γ + 0), vI v1] (mk Γ x) (QI Γ x q) := by
  refine CV.of rfl (cat_all rfl) (Nat.le_of_ble_eq_true rfl) ?_
  show V Γ 5 NF NF D_X10_change (QI Γ x q) 0 [.ref (gB Γ + 0), vI v1] [] NF (mk Γ x)
  unfold M_X10_change at h
  refine V_aload_0 dX10_change_0 ?_
  refine V_iconst dX10_change_1 ?_
  refine V_iload_1 dX10_change_2 ?_
  refine V_cVI2 (My := D_X10_isThere) dX10_change_3 ml_T_149 ce_X10_isThere ly_0 (by decide) cl_10 (by decide) (Nat.le_refl _) (Nat.le_refl _) (by decide) (sumL rfl) (w_X10_isThere hx (rgL rfl) r1 h) (fun z1 hz1 h => ?_)
  refine V_if_eq 20 dX10_change_6 (by decide) hz1 ⟨fun c2 => ?_, fun c2 => ?_⟩
  · have h := h.1 c2
    refine V_ldc dX10_change_20 kc_T_153 ?_
    exact V_ireturn dX10_change_22 rfl ⟨rfl, _, rfl, (rgL rfl), h⟩
  · have h := h.2 c2
    refine V_aload_0 dX10_change_9 ?_
    refine V_gR dX10_change_10 fl_T_19 ly_0 (by decide) wr_0_1 ?_
    refine V_iload_1 dX10_change_13 ?_
    refine V_cVI1 (My := D_X0_leastChange) dX10_change_14 ml_T_254 ce_X0_leastChange ly_3 (by decide) cl_0 (by decide) (Nat.le_refl _) (Nat.le_refl _) (by decide) (sumL rfl) (w_X0_leastChange hx r1 h) (fun z3 hz3 h => ?_)
    refine V_goto 22 dX10_change_17 (by decide) ?_
    exact V_ireturn dX10_change_22 rfl ⟨rfl, _, rfl, hz3, h⟩
def M_X11_change_108 (q : Int → Prop) (K30 : Int → Int → Int → Int → Prop) (K54 : Int → Int → Int → Int → Int → Int → Prop) (x : XM) (v1 : Int) (v2 : Int) (v3 : Int) (v4 : Int) (v5 : Int) (v6 : Int) (s0 : Int) : Prop :=
  ((s0 ≤ 0 → (Rg (v6 + 1)) ∧ K54 v1 v2 v3 v4 v5 (v6 + 1)) ∧ (¬ (s0 ≤ 0) → ((v3 ≤ s0 → (Rg (v6 + 1)) ∧ K54 v1 v2 v3 v4 v5 (v6 + 1)) ∧ (¬ (v3 ≤ s0) → (0 ≤ ((4 * v5) + 1) ∧ ((4 * v5) + 1) < 24) ∧ (0 ≤ (4 * v5) ∧ (4 * v5) < 24) ∧ M_X11_markOf x v1 (x 86 (((4 * v5)).toNat))  (fun z18 => M_X11_isBy x (x 86 ((((4 * v5) + 1)).toNat)) v6 z18  (fun z19 => ((z19 = 0 → (Rg (v6 + 1)) ∧ K54 v1 v2 v3 v4 v5 (v6 + 1)) ∧ (¬ z19 = 0 → (Rg ((10 * v5) + v6)) ∧ (Rg (v6 + 1)) ∧ K54 v1 ((10 * v5) + v6) s0 v4 v5 (v6 + 1)))))))))
def M_X11_change_54 (q : Int → Prop) (K30 : Int → Int → Int → Int → Prop) (x : XM) : Nat → Int → Int → Int → Int → Int → Int → Prop
  | 0, _, _, _, _, _, _ => False
  | n + 1, v1, v2, v3, v4, v5, v6 =>
  ((9 < v6 → (Rg (v4 + 1)) ∧ K30 v1 v2 v3 (v4 + 1)) ∧ (¬ (9 < v6) → (0 ≤ ((4 * v5) + 2) ∧ ((4 * v5) + 2) < 24) ∧ (((x 86 ((((4 * v5) + 2)).toNat)) ≤ v6 → (0 ≤ ((4 * v5) + 2) ∧ ((4 * v5) + 2) < 24) ∧ (Rg (v6 - (x 86 ((((4 * v5) + 2)).toNat)))) ∧ M_X11_change_108 q K30 (M_X11_change_54 q K30 x n) x v1 v2 v3 v4 v5 v6 (v6 - (x 86 ((((4 * v5) + 2)).toNat)))) ∧ (¬ ((x 86 ((((4 * v5) + 2)).toNat)) ≤ v6) → (0 ≤ ((4 * v5) + 2) ∧ ((4 * v5) + 2) < 24) ∧ (Rg ((x 86 ((((4 * v5) + 2)).toNat)) - v6)) ∧ M_X11_change_108 q K30 (M_X11_change_54 q K30 x n) x v1 v2 v3 v4 v5 v6 ((x 86 ((((4 * v5) + 2)).toNat)) - v6)))))
def M_X11_change_30 (q : Int → Prop) (x : XM) : Nat → Int → Int → Int → Int → Prop
  | 0, _, _, _, _ => False
  | n + 1, v1, v2, v3, v4 =>
  (((x 83 5) ≤ v4 → q v2) ∧ (¬ ((x 83 5) ≤ v4) → (0 ≤ (24 + v4) ∧ (24 + v4) < 31) ∧ (∃ m : Nat, M_X11_change_54 q (M_X11_change_30 q x n) x m v1 v2 v3 v4 (x 93 (((24 + v4)).toNat)) 0)))
def M_X11_change (x : XM) (v1 : Int) (q : Int → Prop) : Prop :=
  M_X11_isButton x v1  (fun z1 => ((¬ z1 = 0 → M_X11_ruleOf x v1  (fun z3 => ((z3 = (-1) → ∃ m : Nat, M_X11_change_30 q x m v1 (-1) 10 0) ∧ (¬ z3 = (-1) → q (-1))))) ∧ (z1 = 0 → q (-1000000001))))
set_option maxRecDepth 100000 in
theorem w_X11_change_108 {Γ : GE} {q : Int → Prop} {K30 : Int → Int → Int → Int → Prop} {K54 : Int → Int → Int → Int → Int → Int → Prop} {x : XM} (hx : WX x) (hK30 : ∀ (v1 : Int) (v2 : Int) (v3 : Int) (v4 : Int) , Rg v1 → Rg v2 → Rg v3 → Rg v4 → K30 v1 v2 v3 v4 → V Γ 3 NF NF D_X11_change (QI Γ x q) 30 [.ref (gB Γ + 83), vI v1, vI v2, vI v3, vI v4, uu, uu, uu] [] NF (mk Γ x)) (hK54 : ∀ (v1 : Int) (v2 : Int) (v3 : Int) (v4 : Int) (v5 : Int) (v6 : Int) , Rg v1 → Rg v2 → Rg v3 → Rg v4 → Rg v5 → Rg v6 → K54 v1 v2 v3 v4 v5 v6 → V Γ 3 NF NF D_X11_change (QI Γ x q) 54 [.ref (gB Γ + 83), vI v1, vI v2, vI v3, vI v4, vI v5, vI v6, uu] [] NF (mk Γ x)) : ∀ (v1 : Int) (v2 : Int) (v3 : Int) (v4 : Int) (v5 : Int) (v6 : Int) (s0 : Int) , Rg v1 → Rg v2 → Rg v3 → Rg v4 → Rg v5 → Rg v6 → Rg s0 → M_X11_change_108 q K30 K54 x v1 v2 v3 v4 v5 v6 s0 → V Γ 3 NF NF D_X11_change (QI Γ x q) 108 [.ref (gB Γ + 83), vI v1, vI v2, vI v3, vI v4, vI v5, vI v6, uu] [vI s0] NF (mk Γ x) := by
  intro v1 v2 v3 v4 v5 v6 s0 r1 r2 r3 r4 r5 r6 rs0 h
  unfold M_X11_change_108 at h
  refine V_istore_7 dX11_change_108 rfl rfl ?_
  refine V_iload_7 dX11_change_110 ?_
  refine V_if_le 166 dX11_change_112 (by decide) rs0 ⟨fun c12 => ?_, fun c12 => ?_⟩
  · have h := h.1 c12
    refine V_iinc_6 (a6 := uu) dX11_change_166 rfl ?_
    refine V_goto 54 dX11_change_169 (by decide) ?_
    obtain ⟨g13, h⟩ := h
    refine V_fg_7 ?_
    exact hK54 _ _ _ _ _ _ r1 r2 r3 r4 r5 g13 h
  · have h := h.2 c12
    refine V_iload_7 dX11_change_115 ?_
    refine V_iload_3 dX11_change_117 ?_
    refine V_icmp_ge 166 dX11_change_118 (by decide) rs0 r3 ⟨fun c14 => ?_, fun c14 => ?_⟩
    · have h := h.1 c14
      refine V_iinc_6 (a6 := uu) dX11_change_166 rfl ?_
      refine V_goto 54 dX11_change_169 (by decide) ?_
      obtain ⟨g15, h⟩ := h
      refine V_fg_7 ?_
      exact hK54 _ _ _ _ _ _ r1 r2 r3 r4 r5 g15 h
    · have h := h.2 c14
      refine V_aload_0 dX11_change_121 ?_
      refine V_gR dX11_change_122 fl_R_17 ly_83 (by decide) wr_83_6 ?_
      refine V_iconst dX11_change_125 ?_
      refine V_iload_5 dX11_change_126 ?_
      refine V_imul dX11_change_128 ?_
      refine V_iconst dX11_change_129 ?_
      refine V_iadd dX11_change_130 ?_
      obtain ⟨g16, h⟩ := h
      refine V_aI dX11_change_131 ly_86 (by decide) (by decide) g16 ?_
      refine V_iload_6 dX11_change_132 ?_
      refine V_aload_0 dX11_change_134 ?_
      refine V_iload_1 dX11_change_135 ?_
      refine V_aload_0 dX11_change_136 ?_
      refine V_gR dX11_change_137 fl_R_17 ly_83 (by decide) wr_83_6 ?_
      refine V_iconst dX11_change_140 ?_
      refine V_iload_5 dX11_change_141 ?_
      refine V_imul dX11_change_143 ?_
      obtain ⟨g17, h⟩ := h
      refine V_aI dX11_change_144 ly_86 (by decide) (by decide) g17 ?_
      refine V_cVI2 (My := D_X11_markOf) dX11_change_145 ml_R_163 ce_X11_markOf ly_83 (by decide) cl_11 (by decide) (Nat.le_refl _) (Nat.le_refl _) (by decide) (sumL rfl) (w_X11_markOf hx r1 (hx _ _) h) (fun z18 hz18 h => ?_)
      refine V_cSI3 (My := D_X11_isBy) dX11_change_148 ml_R_166 ce_X11_isBy (Nat.le_refl _) (Nat.le_refl _) (by decide) (sumL rfl) (w_X11_isBy hx (hx _ _) r6 hz18 h) (fun z19 hz19 h => ?_)
      refine V_if_eq 166 dX11_change_151 (by decide) hz19 ⟨fun c20 => ?_, fun c20 => ?_⟩
      · have h := h.1 c20
        refine V_iinc_6 (a6 := uu) dX11_change_166 rfl ?_
        refine V_goto 54 dX11_change_169 (by decide) ?_
        obtain ⟨g21, h⟩ := h
        refine V_fg_7 ?_
        exact hK54 _ _ _ _ _ _ r1 r2 r3 r4 r5 g21 h
      · have h := h.2 c20
        refine V_bipush dX11_change_154 (by decide) ?_
        refine V_iload_5 dX11_change_156 ?_
        refine V_imul dX11_change_158 ?_
        refine V_iload_6 dX11_change_159 ?_
        refine V_iadd dX11_change_161 ?_
        refine V_istore_2 dX11_change_162 rfl rfl ?_
        refine V_iload_7 dX11_change_163 ?_
        refine V_istore_3 dX11_change_165 rfl rfl ?_
        refine V_iinc_6 (a6 := uu) dX11_change_166 rfl ?_
        refine V_goto 54 dX11_change_169 (by decide) ?_
        obtain ⟨g22, h⟩ := h
        obtain ⟨g23, h⟩ := h
        refine V_fg_7 ?_
        exact hK54 _ _ _ _ _ _ r1 g22 rs0 r4 r5 g23 h
set_option maxRecDepth 100000 in
theorem w_X11_change_54 {Γ : GE} {q : Int → Prop} {K30 : Int → Int → Int → Int → Prop} {x : XM} (hx : WX x) (hK30 : ∀ (v1 : Int) (v2 : Int) (v3 : Int) (v4 : Int) , Rg v1 → Rg v2 → Rg v3 → Rg v4 → K30 v1 v2 v3 v4 → V Γ 3 NF NF D_X11_change (QI Γ x q) 30 [.ref (gB Γ + 83), vI v1, vI v2, vI v3, vI v4, uu, uu, uu] [] NF (mk Γ x)) : ∀ (n : Nat) (v1 : Int) (v2 : Int) (v3 : Int) (v4 : Int) (v5 : Int) (v6 : Int) , Rg v1 → Rg v2 → Rg v3 → Rg v4 → Rg v5 → Rg v6 → M_X11_change_54 q K30 x n v1 v2 v3 v4 v5 v6 → V Γ 3 NF NF D_X11_change (QI Γ x q) 54 [.ref (gB Γ + 83), vI v1, vI v2, vI v3, vI v4, vI v5, vI v6, uu] [] NF (mk Γ x) := by
  intro n
  induction n with
  | zero =>
    intro v1 v2 v3 v4 v5 v6 r1 r2 r3 r4 r5 r6 h
    rw [M_X11_change_54.eq_1] at h
    exact h.elim
  | succ n ih =>
    intro v1 v2 v3 v4 v5 v6 r1 r2 r3 r4 r5 r6 h
    rw [M_X11_change_54.eq_2] at h
    refine V_iload_6 dX11_change_54 ?_
    refine V_bipush dX11_change_56 (by decide) ?_
    refine V_icmp_gt 172 dX11_change_58 (by decide) r6 (rgL rfl) ⟨fun c7 => ?_, fun c7 => ?_⟩
    · have h := h.1 c7
      refine V_iinc_4 (a4 := uu) dX11_change_172 rfl ?_
      refine V_goto 30 dX11_change_175 (by decide) ?_
      obtain ⟨g8, h⟩ := h
      refine V_fg_5 ?_
      refine V_fg_6 ?_
      exact hK30 _ _ _ _ r1 r2 r3 g8 h
    · have h := h.2 c7
      refine V_iload_6 dX11_change_61 ?_
      refine V_aload_0 dX11_change_63 ?_
      refine V_gR dX11_change_64 fl_R_17 ly_83 (by decide) wr_83_6 ?_
      refine V_iconst dX11_change_67 ?_
      refine V_iload_5 dX11_change_68 ?_
      refine V_imul dX11_change_70 ?_
      refine V_iconst dX11_change_71 ?_
      refine V_iadd dX11_change_72 ?_
      obtain ⟨g9, h⟩ := h
      refine V_aI dX11_change_73 ly_86 (by decide) (by decide) g9 ?_
      refine V_icmp_ge 94 dX11_change_74 (by decide) r6 (hx _ _) ⟨fun c10 => ?_, fun c10 => ?_⟩
      · have h := h.1 c10
        refine V_iload_6 dX11_change_94 ?_
        refine V_aload_0 dX11_change_96 ?_
        refine V_gR dX11_change_97 fl_R_17 ly_83 (by decide) wr_83_6 ?_
        refine V_iconst dX11_change_100 ?_
        refine V_iload_5 dX11_change_101 ?_
        refine V_imul dX11_change_103 ?_
        refine V_iconst dX11_change_104 ?_
        refine V_iadd dX11_change_105 ?_
        obtain ⟨g11, h⟩ := h
        refine V_aI dX11_change_106 ly_86 (by decide) (by decide) g11 ?_
        refine V_isub dX11_change_107 ?_
        obtain ⟨g24, h⟩ := h
        exact w_X11_change_108 hx (hK30) (ih) _ _ _ _ _ _ _ r1 r2 r3 r4 r5 r6 g24 h
      · have h := h.2 c10
        refine V_aload_0 dX11_change_77 ?_
        refine V_gR dX11_change_78 fl_R_17 ly_83 (by decide) wr_83_6 ?_
        refine V_iconst dX11_change_81 ?_
        refine V_iload_5 dX11_change_82 ?_
        refine V_imul dX11_change_84 ?_
        refine V_iconst dX11_change_85 ?_
        refine V_iadd dX11_change_86 ?_
        obtain ⟨g25, h⟩ := h
        refine V_aI dX11_change_87 ly_86 (by decide) (by decide) g25 ?_
        refine V_iload_6 dX11_change_88 ?_
        refine V_isub dX11_change_90 ?_
        refine V_goto 108 dX11_change_91 (by decide) ?_
        obtain ⟨g26, h⟩ := h
        exact w_X11_change_108 hx (hK30) (ih) _ _ _ _ _ _ _ r1 r2 r3 r4 r5 r6 g26 h
set_option maxRecDepth 100000 in
theorem w_X11_change_30 {Γ : GE} {q : Int → Prop} {x : XM} (hx : WX x) : ∀ (n : Nat) (v1 : Int) (v2 : Int) (v3 : Int) (v4 : Int) , Rg v1 → Rg v2 → Rg v3 → Rg v4 → M_X11_change_30 q x n v1 v2 v3 v4 → V Γ 3 NF NF D_X11_change (QI Γ x q) 30 [.ref (gB Γ + 83), vI v1, vI v2, vI v3, vI v4, uu, uu, uu] [] NF (mk Γ x) := by
  intro n
  induction n with
  | zero =>
    intro v1 v2 v3 v4 r1 r2 r3 r4 h
    rw [M_X11_change_30.eq_1] at h
    exact h.elim
  | succ n ih =>
    intro v1 v2 v3 v4 r1 r2 r3 r4 h
    rw [M_X11_change_30.eq_2] at h
    refine V_iload_4 dX11_change_30 ?_
    refine V_aload_0 dX11_change_32 ?_
    refine V_gI dX11_change_33 fl_R_148 ly_83 (by decide) wn_83_5 ?_
    refine V_icmp_ge 178 dX11_change_36 (by decide) r4 (hx _ _) ⟨fun c5 => ?_, fun c5 => ?_⟩
    · have h := h.1 c5
      refine V_iload_2 dX11_change_178 ?_
      exact V_ireturn dX11_change_179 rfl ⟨rfl, _, rfl, r2, h⟩
    · have h := h.2 c5
      refine V_aload_0 dX11_change_39 ?_
      refine V_gR dX11_change_40 fl_R_38 ly_83 (by decide) wr_83_25 ?_
      refine V_bipush dX11_change_43 (by decide) ?_
      refine V_iload_4 dX11_change_45 ?_
      refine V_iadd dX11_change_47 ?_
      obtain ⟨g6, h⟩ := h
      refine V_aI dX11_change_48 ly_93 (by decide) (by decide) g6 ?_
      refine V_istore_5 dX11_change_49 rfl rfl ?_
      refine V_iconst dX11_change_51 ?_
      refine V_istore_6 dX11_change_52 rfl rfl ?_
      obtain ⟨m9, h⟩ := h
      exact w_X11_change_54 hx (ih) m9 _ _ _ _ _ _ r1 r2 r3 r4 (hx _ _) (rgL rfl) h
set_option maxRecDepth 100000 in
theorem w_X11_change {Γ : GE} {x : XM} (hx : WX x) {v1 : Int} {q : Int → Prop} (r1 : Rg v1) (h : M_X11_change x v1 q) : CV Γ 3 NF NF D_X11_change [.ref (gB Γ + 83), vI v1] (mk Γ x) (QI Γ x q) := by
  refine CV.of rfl (cat_all rfl) (Nat.le_of_ble_eq_true rfl) ?_
  show V Γ 3 NF NF D_X11_change (QI Γ x q) 0 [.ref (gB Γ + 83), vI v1, uu, uu, uu, uu, uu, uu] [] NF (mk Γ x)
  unfold M_X11_change at h
  refine V_aload_0 dX11_change_0 ?_
  refine V_iload_1 dX11_change_1 ?_
  refine V_cVI1 (My := D_X11_isButton) dX11_change_2 ml_R_201 ce_X11_isButton ly_83 (by decide) cl_11 (by decide) (Nat.le_refl _) (Nat.le_refl _) (by decide) (sumL rfl) (w_X11_isButton hx r1 h) (fun z1 hz1 h => ?_)
  refine V_if_ne 11 dX11_change_5 (by decide) hz1 ⟨fun c2 => ?_, fun c2 => ?_⟩
  · have h := h.1 c2
    refine V_aload_0 dX11_change_11 ?_
    refine V_iload_1 dX11_change_12 ?_
    refine V_cVI1 (My := D_X11_ruleOf) dX11_change_13 ml_R_173 ce_X11_ruleOf ly_83 (by decide) cl_11 (by decide) (Nat.le_refl _) (Nat.le_refl _) (by decide) (sumL rfl) (w_X11_ruleOf hx r1 h) (fun z3 hz3 h => ?_)
    refine V_iconst dX11_change_16 ?_
    refine V_icmp_eq 22 dX11_change_17 (by decide) hz3 (rgL rfl) ⟨fun c4 => ?_, fun c4 => ?_⟩
    · have h := h.1 c4
      refine V_iconst dX11_change_22 ?_
      refine V_istore_2 dX11_change_23 rfl rfl ?_
      refine V_bipush dX11_change_24 (by decide) ?_
      refine V_istore_3 dX11_change_26 rfl rfl ?_
      refine V_iconst dX11_change_27 ?_
      refine V_istore_4 dX11_change_28 rfl rfl ?_
      obtain ⟨m9, h⟩ := h
      exact w_X11_change_30 hx m9 _ _ _ _ r1 (rgL rfl) (rgL rfl) (rgL rfl) h
    · have h := h.2 c4
      refine V_iconst dX11_change_20 ?_
      exact V_ireturn dX11_change_21 rfl ⟨rfl, _, rfl, (rgL rfl), h⟩
  · have h := h.2 c2
    refine V_ldc dX11_change_8 kc_R_205 ?_
    exact V_ireturn dX11_change_10 rfl ⟨rfl, _, rfl, (rgL rfl), h⟩
def M_X0_haveLikeMarks_2 (q : Int → Prop) (x : XM) : Nat → Int → Int → Int → Prop
  | 0, _, _, _ => False
  | n + 1, v1, v2, v3 =>
  ((4 ≤ v3 → q 1) ∧ (¬ (4 ≤ v3) → M_X0_mark x v1 v3  (fun z2 => M_X0_mark x v2 v3  (fun z3 => ((z2 = z3 → (Rg (v3 + 1)) ∧ (M_X0_haveLikeMarks_2 q x n) v1 v2 (v3 + 1)) ∧ (¬ z2 = z3 → q 0))))))
def M_X0_haveLikeMarks (x : XM) (v1 : Int) (v2 : Int) (q : Int → Prop) : Prop :=
  ∃ m : Nat, M_X0_haveLikeMarks_2 q x m v1 v2 0
set_option maxRecDepth 100000 in
theorem w_X0_haveLikeMarks_2 {Γ : GE} {q : Int → Prop} {x : XM} (hx : WX x) : ∀ (n : Nat) (v1 : Int) (v2 : Int) (v3 : Int) , Rg v1 → Rg v2 → Rg v3 → M_X0_haveLikeMarks_2 q x n v1 v2 v3 → V Γ 2 NF NF D_X0_haveLikeMarks (QI Γ x q) 2 [.ref (gB Γ + 3), vI v1, vI v2, vI v3] [] NF (mk Γ x) := by
  intro n
  induction n with
  | zero =>
    intro v1 v2 v3 r1 r2 r3 h
    rw [M_X0_haveLikeMarks_2.eq_1] at h
    exact h.elim
  | succ n ih =>
    intro v1 v2 v3 r1 r2 r3 h
    rw [M_X0_haveLikeMarks_2.eq_2] at h
    refine V_iload_3 dX0_haveLikeMarks_2 ?_
    refine V_iconst dX0_haveLikeMarks_3 ?_
    refine V_icmp_ge 30 dX0_haveLikeMarks_4 (by decide) r3 (rgL rfl) ⟨fun c1 => ?_, fun c1 => ?_⟩
    · have h := h.1 c1
      refine V_iconst dX0_haveLikeMarks_30 ?_
      exact V_zreturn dX0_haveLikeMarks_31 rfl (Or.inr rfl) ⟨rfl, _, rfl, (rgL rfl), h⟩
    · have h := h.2 c1
      refine V_aload_0 dX0_haveLikeMarks_7 ?_
      refine V_iload_1 dX0_haveLikeMarks_8 ?_
      refine V_iload_3 dX0_haveLikeMarks_9 ?_
      refine V_cVI2 (My := D_X0_mark) dX0_haveLikeMarks_10 ml_Bench_40 ce_X0_mark ly_3 (by decide) cl_0 (by decide) (Nat.le_refl _) (Nat.le_refl _) (by decide) (sumL rfl) (w_X0_mark hx r1 r3 h) (fun z2 hz2 h => ?_)
      refine V_aload_0 dX0_haveLikeMarks_13 ?_
      refine V_iload_2 dX0_haveLikeMarks_14 ?_
      refine V_iload_3 dX0_haveLikeMarks_15 ?_
      refine V_cVI2 (My := D_X0_mark) dX0_haveLikeMarks_16 ml_Bench_40 ce_X0_mark ly_3 (by decide) cl_0 (by decide) (Nat.le_refl _) (Nat.le_refl _) (by decide) (sumL rfl) (w_X0_mark hx r2 r3 h) (fun z3 hz3 h => ?_)
      refine V_icmp_eq 24 dX0_haveLikeMarks_19 (by decide) hz2 hz3 ⟨fun c4 => ?_, fun c4 => ?_⟩
      · have h := h.1 c4
        refine V_iinc_3 (a3 := uu) dX0_haveLikeMarks_24 rfl ?_
        refine V_goto 2 dX0_haveLikeMarks_27 (by decide) ?_
        obtain ⟨g5, h⟩ := h
        exact ih _ _ _ r1 r2 g5 h
      · have h := h.2 c4
        refine V_iconst dX0_haveLikeMarks_22 ?_
        exact V_zreturn dX0_haveLikeMarks_23 rfl (Or.inl rfl) ⟨rfl, _, rfl, (rgL rfl), h⟩
set_option maxRecDepth 100000 in
theorem w_X0_haveLikeMarks {Γ : GE} {x : XM} (hx : WX x) {v1 v2 : Int} {q : Int → Prop} (r1 : Rg v1) (r2 : Rg v2) (h : M_X0_haveLikeMarks x v1 v2 q) : CV Γ 2 NF NF D_X0_haveLikeMarks [.ref (gB Γ + 3), vI v1, vI v2] (mk Γ x) (QI Γ x q) := by
  refine CV.of rfl (cat_all rfl) (Nat.le_of_ble_eq_true rfl) ?_
  show V Γ 2 NF NF D_X0_haveLikeMarks (QI Γ x q) 0 [.ref (gB Γ + 3), vI v1, vI v2, uu] [] NF (mk Γ x)
  unfold M_X0_haveLikeMarks at h
  refine V_iconst dX0_haveLikeMarks_0 ?_
  refine V_istore_3 dX0_haveLikeMarks_1 rfl rfl ?_
  obtain ⟨m9, h⟩ := h
  exact w_X0_haveLikeMarks_2 hx m9 _ _ _ r1 r2 (rgL rfl) h
def M_X10_alike_26 (q : Int → Prop) (K14 : Int → Int → Int → Int → Prop) (x : XM) : Nat → Int → Int → Int → Int → Int → Prop
  | 0, _, _, _, _, _ => False
  | n + 1, v1, v2, v3, v4, v5 =>
  ((v2 ≤ v5 → (Rg (v4 + 1)) ∧ K14 v1 v2 v3 (v4 + 1)) ∧ (¬ (v2 ≤ v5) → M_X0_haveLikeMarks x v4 v5  (fun z6 => ((z6 = 0 → (Rg (v5 + 1)) ∧ (M_X10_alike_26 q K14 x n) v1 v2 v3 v4 (v5 + 1)) ∧ (¬ z6 = 0 → ((¬ v3 = v1 → (Rg (v3 + 1)) ∧ (Rg (v5 + 1)) ∧ (M_X10_alike_26 q K14 x n) v1 v2 (v3 + 1) v4 (v5 + 1)) ∧ (v3 = v1 → (Rg ((100 * v4) + v5)) ∧ q ((100 * v4) + v5))))))))
def M_X10_alike_14 (q : Int → Prop) (x : XM) : Nat → Int → Int → Int → Int → Prop
  | 0, _, _, _, _ => False
  | n + 1, v1, v2, v3, v4 =>
  ((v2 ≤ v4 → ((¬ v1 = (-1) → q (-1)) ∧ (v1 = (-1) → q v3))) ∧ (¬ (v2 ≤ v4) → (Rg (v4 + 1)) ∧ ∃ m : Nat, M_X10_alike_26 q (M_X10_alike_14 q x n) x m v1 v2 v3 v4 (v4 + 1)))
def M_X10_alike (x : XM) (v1 : Int) (q : Int → Prop) : Prop :=
  M_X0_count x 1  (fun z1 => ∃ m : Nat, M_X10_alike_14 q x m v1 z1 0 0)
set_option maxRecDepth 100000 in
theorem w_X10_alike_26 {Γ : GE} {q : Int → Prop} {K14 : Int → Int → Int → Int → Prop} {x : XM} (hx : WX x) (hK14 : ∀ (v1 : Int) (v2 : Int) (v3 : Int) (v4 : Int) , Rg v1 → Rg v2 → Rg v3 → Rg v4 → K14 v1 v2 v3 v4 → V Γ 3 NF NF D_X10_alike (QI Γ x q) 14 [.ref (gB Γ + 0), vI v1, vI v2, vI v3, vI v4, uu] [] NF (mk Γ x)) : ∀ (n : Nat) (v1 : Int) (v2 : Int) (v3 : Int) (v4 : Int) (v5 : Int) , Rg v1 → Rg v2 → Rg v3 → Rg v4 → Rg v5 → M_X10_alike_26 q K14 x n v1 v2 v3 v4 v5 → V Γ 3 NF NF D_X10_alike (QI Γ x q) 26 [.ref (gB Γ + 0), vI v1, vI v2, vI v3, vI v4, vI v5] [] NF (mk Γ x) := by
  intro n
  induction n with
  | zero =>
    intro v1 v2 v3 v4 v5 r1 r2 r3 r4 r5 h
    rw [M_X10_alike_26.eq_1] at h
    exact h.elim
  | succ n ih =>
    intro v1 v2 v3 v4 v5 r1 r2 r3 r4 r5 h
    rw [M_X10_alike_26.eq_2] at h
    refine V_iload_5 dX10_alike_26 ?_
    refine V_iload_2 dX10_alike_28 ?_
    refine V_icmp_ge 69 dX10_alike_29 (by decide) r5 r2 ⟨fun c4 => ?_, fun c4 => ?_⟩
    · have h := h.1 c4
      refine V_iinc_4 (a4 := uu) dX10_alike_69 rfl ?_
      refine V_goto 14 dX10_alike_72 (by decide) ?_
      obtain ⟨g5, h⟩ := h
      refine V_fg_5 ?_
      exact hK14 _ _ _ _ r1 r2 r3 g5 h
    · have h := h.2 c4
      refine V_aload_0 dX10_alike_32 ?_
      refine V_gR dX10_alike_33 fl_T_19 ly_0 (by decide) wr_0_1 ?_
      refine V_iload_4 dX10_alike_36 ?_
      refine V_iload_5 dX10_alike_38 ?_
      refine V_cVI2 (My := D_X0_haveLikeMarks) dX10_alike_40 ml_T_257 ce_X0_haveLikeMarks ly_3 (by decide) cl_0 (by decide) (Nat.le_refl _) (Nat.le_refl _) (by decide) (sumL rfl) (w_X0_haveLikeMarks hx r4 r5 h) (fun z6 hz6 h => ?_)
      refine V_if_eq 63 dX10_alike_43 (by decide) hz6 ⟨fun c7 => ?_, fun c7 => ?_⟩
      · have h := h.1 c7
        refine V_iinc_5 (a5 := uu) dX10_alike_63 rfl ?_
        refine V_goto 26 dX10_alike_66 (by decide) ?_
        obtain ⟨g8, h⟩ := h
        exact ih _ _ _ _ _ r1 r2 r3 r4 g8 h
      · have h := h.2 c7
        refine V_iload_3 dX10_alike_46 ?_
        refine V_iload_1 dX10_alike_47 ?_
        refine V_icmp_ne 60 dX10_alike_48 (by decide) r3 r1 ⟨fun c9 => ?_, fun c9 => ?_⟩
        · have h := h.1 c9
          refine V_iinc_3 (a3 := uu) dX10_alike_60 rfl ?_
          refine V_iinc_5 (a5 := uu) dX10_alike_63 rfl ?_
          refine V_goto 26 dX10_alike_66 (by decide) ?_
          obtain ⟨g10, h⟩ := h
          obtain ⟨g11, h⟩ := h
          exact ih _ _ _ _ _ r1 r2 g10 r4 g11 h
        · have h := h.2 c9
          refine V_bipush dX10_alike_51 (by decide) ?_
          refine V_iload_4 dX10_alike_53 ?_
          refine V_imul dX10_alike_55 ?_
          refine V_iload_5 dX10_alike_56 ?_
          refine V_iadd dX10_alike_58 ?_
          obtain ⟨g12, h⟩ := h
          exact V_ireturn dX10_alike_59 rfl ⟨rfl, _, rfl, g12, h⟩
set_option maxRecDepth 100000 in
theorem w_X10_alike_14 {Γ : GE} {q : Int → Prop} {x : XM} (hx : WX x) : ∀ (n : Nat) (v1 : Int) (v2 : Int) (v3 : Int) (v4 : Int) , Rg v1 → Rg v2 → Rg v3 → Rg v4 → M_X10_alike_14 q x n v1 v2 v3 v4 → V Γ 3 NF NF D_X10_alike (QI Γ x q) 14 [.ref (gB Γ + 0), vI v1, vI v2, vI v3, vI v4, uu] [] NF (mk Γ x) := by
  intro n
  induction n with
  | zero =>
    intro v1 v2 v3 v4 r1 r2 r3 r4 h
    rw [M_X10_alike_14.eq_1] at h
    exact h.elim
  | succ n ih =>
    intro v1 v2 v3 v4 r1 r2 r3 r4 h
    rw [M_X10_alike_14.eq_2] at h
    refine V_iload_4 dX10_alike_14 ?_
    refine V_iload_2 dX10_alike_16 ?_
    refine V_icmp_ge 75 dX10_alike_17 (by decide) r4 r2 ⟨fun c2 => ?_, fun c2 => ?_⟩
    · have h := h.1 c2
      refine V_iload_1 dX10_alike_75 ?_
      refine V_iconst dX10_alike_76 ?_
      refine V_icmp_ne 84 dX10_alike_77 (by decide) r1 (rgL rfl) ⟨fun c3 => ?_, fun c3 => ?_⟩
      · have h := h.1 c3
        refine V_iconst dX10_alike_84 ?_
        exact V_ireturn dX10_alike_85 rfl ⟨rfl, _, rfl, (rgL rfl), h⟩
      · have h := h.2 c3
        refine V_iload_3 dX10_alike_80 ?_
        refine V_goto 85 dX10_alike_81 (by decide) ?_
        exact V_ireturn dX10_alike_85 rfl ⟨rfl, _, rfl, r3, h⟩
    · have h := h.2 c2
      refine V_iload_4 dX10_alike_20 ?_
      refine V_iconst dX10_alike_22 ?_
      refine V_iadd dX10_alike_23 ?_
      refine V_istore_5 dX10_alike_24 rfl rfl ?_
      obtain ⟨g13, h⟩ := h
      obtain ⟨m9, h⟩ := h
      exact w_X10_alike_26 hx (ih) m9 _ _ _ _ _ r1 r2 r3 r4 g13 h
set_option maxRecDepth 100000 in
theorem w_X10_alike {Γ : GE} {x : XM} (hx : WX x) {v1 : Int} {q : Int → Prop} (r1 : Rg v1) (h : M_X10_alike x v1 q) : CV Γ 3 NF NF D_X10_alike [.ref (gB Γ + 0), vI v1] (mk Γ x) (QI Γ x q) := by
  refine CV.of rfl (cat_all rfl) (Nat.le_of_ble_eq_true rfl) ?_
  show V Γ 3 NF NF D_X10_alike (QI Γ x q) 0 [.ref (gB Γ + 0), vI v1, uu, uu, uu, uu] [] NF (mk Γ x)
  unfold M_X10_alike at h
  refine V_aload_0 dX10_alike_0 ?_
  refine V_gR dX10_alike_1 fl_T_19 ly_0 (by decide) wr_0_1 ?_
  refine V_iconst dX10_alike_4 ?_
  refine V_cVI1 (My := D_X0_count) dX10_alike_5 ml_T_116 ce_X0_count ly_3 (by decide) cl_0 (by decide) (Nat.le_refl _) (Nat.le_refl _) (by decide) (sumL rfl) (w_X0_count hx (rgL rfl) h) (fun z1 hz1 h => ?_)
  refine V_istore_2 dX10_alike_8 rfl rfl ?_
  refine V_iconst dX10_alike_9 ?_
  refine V_istore_3 dX10_alike_10 rfl rfl ?_
  refine V_iconst dX10_alike_11 ?_
  refine V_istore_4 dX10_alike_12 rfl rfl ?_
  obtain ⟨m9, h⟩ := h
  exact w_X10_alike_14 hx m9 _ _ _ _ r1 hz1 (rgL rfl) (rgL rfl) h
def M_X11_alike_92 (q : Int → Prop) (K4 : Int → Int → Int → Prop) (K17 : Int → Int → Int → Int → Prop) (x : XM) (v1 : Int) (v2 : Int) (v3 : Int) (v4 : Int) (v5 : Int) : Prop :=
  ((v5 = 0 → (Rg (v2 + 0)) ∧ (Rg (v4 + 1)) ∧ K17 v1 (v2 + 0) v3 (v4 + 1)) ∧ (¬ v5 = 0 → (Rg (v2 + 1)) ∧ (Rg (v4 + 1)) ∧ K17 v1 (v2 + 1) v3 (v4 + 1)))
def M_X11_alike_32 (q : Int → Prop) (K4 : Int → Int → Int → Prop) (K17 : Int → Int → Int → Int → Prop) (x : XM) : Nat → Int → Int → Int → Int → Int → Int → Prop
  | 0, _, _, _, _, _, _ => False
  | n + 1, v1, v2, v3, v4, v5, v6 =>
  ((4 ≤ v6 → ((v5 = 0 → M_X11_alike_92 q K4 K17 x v1 v2 v3 v4 v5) ∧ (¬ v5 = 0 → ((¬ v2 = v1 → M_X11_alike_92 q K4 K17 x v1 v2 v3 v4 v5) ∧ (v2 = v1 → (Rg ((100 * v3) + v4)) ∧ q ((100 * v3) + v4)))))) ∧ (¬ (4 ≤ v6) → ((v5 = 0 → (Rg (v6 + 1)) ∧ (M_X11_alike_32 q K4 K17 x n) v1 v2 v3 v4 0 (v6 + 1)) ∧ (¬ v5 = 0 → M_X11_markOf x v3 v6  (fun z16 => M_X11_markOf x v4 v6  (fun z17 => ((¬ z16 = z17 → (Rg (v6 + 1)) ∧ (M_X11_alike_32 q K4 K17 x n) v1 v2 v3 v4 0 (v6 + 1)) ∧ (z16 = z17 → (Rg (v6 + 1)) ∧ (M_X11_alike_32 q K4 K17 x n) v1 v2 v3 v4 1 (v6 + 1)))))))))
def M_X11_alike_17 (q : Int → Prop) (K4 : Int → Int → Int → Prop) (x : XM) : Nat → Int → Int → Int → Int → Prop
  | 0, _, _, _, _ => False
  | n + 1, v1, v2, v3, v4 =>
  (((x 83 3) ≤ v4 → (Rg (v3 + 1)) ∧ K4 v1 v2 (v3 + 1)) ∧ (¬ ((x 83 3) ≤ v4) → ∃ m : Nat, M_X11_alike_32 q K4 (M_X11_alike_17 q K4 x n) x m v1 v2 v3 v4 1 0))
def M_X11_alike_4 (q : Int → Prop) (x : XM) : Nat → Int → Int → Int → Prop
  | 0, _, _, _ => False
  | n + 1, v1, v2, v3 =>
  (((x 83 3) ≤ v3 → ((¬ v1 = (-1) → q (-1)) ∧ (v1 = (-1) → q v2))) ∧ (¬ ((x 83 3) ≤ v3) → (Rg (v3 + 1)) ∧ ∃ m : Nat, M_X11_alike_17 q (M_X11_alike_4 q x n) x m v1 v2 v3 (v3 + 1)))
def M_X11_alike (x : XM) (v1 : Int) (q : Int → Prop) : Prop :=
  ∃ m : Nat, M_X11_alike_4 q x m v1 0 0
set_option maxRecDepth 100000 in
theorem w_X11_alike_92 {Γ : GE} {q : Int → Prop} {K4 : Int → Int → Int → Prop} {K17 : Int → Int → Int → Int → Prop} {x : XM} (hx : WX x) (hK4 : ∀ (v1 : Int) (v2 : Int) (v3 : Int) , Rg v1 → Rg v2 → Rg v3 → K4 v1 v2 v3 → V Γ 1 NF NF D_X11_alike (QI Γ x q) 4 [.ref (gB Γ + 83), vI v1, vI v2, vI v3, uu, uu, uu] [] NF (mk Γ x)) (hK17 : ∀ (v1 : Int) (v2 : Int) (v3 : Int) (v4 : Int) , Rg v1 → Rg v2 → Rg v3 → Rg v4 → K17 v1 v2 v3 v4 → V Γ 1 NF NF D_X11_alike (QI Γ x q) 17 [.ref (gB Γ + 83), vI v1, vI v2, vI v3, vI v4, uu, uu] [] NF (mk Γ x)) : ∀ (v1 : Int) (v2 : Int) (v3 : Int) (v4 : Int) (v5 : Int) , Rg v1 → Rg v2 → Rg v3 → Rg v4 → Rg v5 → M_X11_alike_92 q K4 K17 x v1 v2 v3 v4 v5 → V Γ 1 NF NF D_X11_alike (QI Γ x q) 92 [.ref (gB Γ + 83), vI v1, vI v2, vI v3, vI v4, vI v5, uu] [] NF (mk Γ x) := by
  intro v1 v2 v3 v4 v5 r1 r2 r3 r4 r5 h
  unfold M_X11_alike_92 at h
  refine V_iload_2 dX11_alike_92 ?_
  refine V_iload_5 dX11_alike_93 ?_
  refine V_if_eq 102 dX11_alike_95 (by decide) r5 ⟨fun c7 => ?_, fun c7 => ?_⟩
  · have h := h.1 c7
    refine V_iconst dX11_alike_102 ?_
    refine V_iadd dX11_alike_103 ?_
    refine V_istore_2 dX11_alike_104 rfl rfl ?_
    refine V_iinc_4 (a4 := uu) dX11_alike_105 rfl ?_
    refine V_goto 17 dX11_alike_108 (by decide) ?_
    obtain ⟨g8, h⟩ := h
    obtain ⟨g9, h⟩ := h
    refine V_fg_5 ?_
    exact hK17 _ _ _ _ r1 g8 r3 g9 h
  · have h := h.2 c7
    refine V_iconst dX11_alike_98 ?_
    refine V_goto 103 dX11_alike_99 (by decide) ?_
    refine V_iadd dX11_alike_103 ?_
    refine V_istore_2 dX11_alike_104 rfl rfl ?_
    refine V_iinc_4 (a4 := uu) dX11_alike_105 rfl ?_
    refine V_goto 17 dX11_alike_108 (by decide) ?_
    obtain ⟨g10, h⟩ := h
    obtain ⟨g11, h⟩ := h
    refine V_fg_5 ?_
    exact hK17 _ _ _ _ r1 g10 r3 g11 h
set_option maxRecDepth 100000 in
theorem w_X11_alike_32 {Γ : GE} {q : Int → Prop} {K4 : Int → Int → Int → Prop} {K17 : Int → Int → Int → Int → Prop} {x : XM} (hx : WX x) (hK4 : ∀ (v1 : Int) (v2 : Int) (v3 : Int) , Rg v1 → Rg v2 → Rg v3 → K4 v1 v2 v3 → V Γ 1 NF NF D_X11_alike (QI Γ x q) 4 [.ref (gB Γ + 83), vI v1, vI v2, vI v3, uu, uu, uu] [] NF (mk Γ x)) (hK17 : ∀ (v1 : Int) (v2 : Int) (v3 : Int) (v4 : Int) , Rg v1 → Rg v2 → Rg v3 → Rg v4 → K17 v1 v2 v3 v4 → V Γ 1 NF NF D_X11_alike (QI Γ x q) 17 [.ref (gB Γ + 83), vI v1, vI v2, vI v3, vI v4, uu, uu] [] NF (mk Γ x)) : ∀ (n : Nat) (v1 : Int) (v2 : Int) (v3 : Int) (v4 : Int) (v5 : Int) (v6 : Int) , Rg v1 → Rg v2 → Rg v3 → Rg v4 → Rg v5 → Rg v6 → M_X11_alike_32 q K4 K17 x n v1 v2 v3 v4 v5 v6 → V Γ 1 NF NF D_X11_alike (QI Γ x q) 32 [.ref (gB Γ + 83), vI v1, vI v2, vI v3, vI v4, vI v5, vI v6] [] NF (mk Γ x) := by
  intro n
  induction n with
  | zero =>
    intro v1 v2 v3 v4 v5 v6 r1 r2 r3 r4 r5 r6 h
    rw [M_X11_alike_32.eq_1] at h
    exact h.elim
  | succ n ih =>
    intro v1 v2 v3 v4 v5 v6 r1 r2 r3 r4 r5 r6 h
    rw [M_X11_alike_32.eq_2] at h
    refine V_iload_6 dX11_alike_32 ?_
    refine V_iconst dX11_alike_34 ?_
    refine V_icmp_ge 74 dX11_alike_35 (by decide) r6 (rgL rfl) ⟨fun c5 => ?_, fun c5 => ?_⟩
    · have h := h.1 c5
      refine V_iload_5 dX11_alike_74 ?_
      refine V_if_eq 92 dX11_alike_76 (by decide) r5 ⟨fun c6 => ?_, fun c6 => ?_⟩
      · have h := h.1 c6
        refine V_fg_6 ?_
        exact w_X11_alike_92 hx (hK4) (hK17) _ _ _ _ _ r1 r2 r3 r4 r5 h
      · have h := h.2 c6
        refine V_iload_2 dX11_alike_79 ?_
        refine V_iload_1 dX11_alike_80 ?_
        refine V_icmp_ne 92 dX11_alike_81 (by decide) r2 r1 ⟨fun c12 => ?_, fun c12 => ?_⟩
        · have h := h.1 c12
          refine V_fg_6 ?_
          exact w_X11_alike_92 hx (hK4) (hK17) _ _ _ _ _ r1 r2 r3 r4 r5 h
        · have h := h.2 c12
          refine V_bipush dX11_alike_84 (by decide) ?_
          refine V_iload_3 dX11_alike_86 ?_
          refine V_imul dX11_alike_87 ?_
          refine V_iload_4 dX11_alike_88 ?_
          refine V_iadd dX11_alike_90 ?_
          obtain ⟨g13, h⟩ := h
          exact V_ireturn dX11_alike_91 rfl ⟨rfl, _, rfl, g13, h⟩
    · have h := h.2 c5
      refine V_iload_5 dX11_alike_38 ?_
      refine V_if_eq 65 dX11_alike_40 (by decide) r5 ⟨fun c14 => ?_, fun c14 => ?_⟩
      · have h := h.1 c14
        refine V_iconst dX11_alike_65 ?_
        refine V_istore_5 dX11_alike_66 rfl rfl ?_
        refine V_iinc_6 (a6 := uu) dX11_alike_68 rfl ?_
        refine V_goto 32 dX11_alike_71 (by decide) ?_
        obtain ⟨g15, h⟩ := h
        exact ih _ _ _ _ _ _ r1 r2 r3 r4 (rgL rfl) g15 h
      · have h := h.2 c14
        refine V_aload_0 dX11_alike_43 ?_
        refine V_iload_3 dX11_alike_44 ?_
        refine V_iload_6 dX11_alike_45 ?_
        refine V_cVI2 (My := D_X11_markOf) dX11_alike_47 ml_R_163 ce_X11_markOf ly_83 (by decide) cl_11 (by decide) (Nat.le_refl _) (Nat.le_refl _) (by decide) (sumL rfl) (w_X11_markOf hx r3 r6 h) (fun z16 hz16 h => ?_)
        refine V_aload_0 dX11_alike_50 ?_
        refine V_iload_4 dX11_alike_51 ?_
        refine V_iload_6 dX11_alike_53 ?_
        refine V_cVI2 (My := D_X11_markOf) dX11_alike_55 ml_R_163 ce_X11_markOf ly_83 (by decide) cl_11 (by decide) (Nat.le_refl _) (Nat.le_refl _) (by decide) (sumL rfl) (w_X11_markOf hx r4 r6 h) (fun z17 hz17 h => ?_)
        refine V_icmp_ne 65 dX11_alike_58 (by decide) hz16 hz17 ⟨fun c18 => ?_, fun c18 => ?_⟩
        · have h := h.1 c18
          refine V_iconst dX11_alike_65 ?_
          refine V_istore_5 dX11_alike_66 rfl rfl ?_
          refine V_iinc_6 (a6 := uu) dX11_alike_68 rfl ?_
          refine V_goto 32 dX11_alike_71 (by decide) ?_
          obtain ⟨g19, h⟩ := h
          exact ih _ _ _ _ _ _ r1 r2 r3 r4 (rgL rfl) g19 h
        · have h := h.2 c18
          refine V_iconst dX11_alike_61 ?_
          refine V_goto 66 dX11_alike_62 (by decide) ?_
          refine V_istore_5 dX11_alike_66 rfl rfl ?_
          refine V_iinc_6 (a6 := uu) dX11_alike_68 rfl ?_
          refine V_goto 32 dX11_alike_71 (by decide) ?_
          obtain ⟨g20, h⟩ := h
          exact ih _ _ _ _ _ _ r1 r2 r3 r4 (rgL rfl) g20 h
set_option maxRecDepth 100000 in
theorem w_X11_alike_17 {Γ : GE} {q : Int → Prop} {K4 : Int → Int → Int → Prop} {x : XM} (hx : WX x) (hK4 : ∀ (v1 : Int) (v2 : Int) (v3 : Int) , Rg v1 → Rg v2 → Rg v3 → K4 v1 v2 v3 → V Γ 1 NF NF D_X11_alike (QI Γ x q) 4 [.ref (gB Γ + 83), vI v1, vI v2, vI v3, uu, uu, uu] [] NF (mk Γ x)) : ∀ (n : Nat) (v1 : Int) (v2 : Int) (v3 : Int) (v4 : Int) , Rg v1 → Rg v2 → Rg v3 → Rg v4 → M_X11_alike_17 q K4 x n v1 v2 v3 v4 → V Γ 1 NF NF D_X11_alike (QI Γ x q) 17 [.ref (gB Γ + 83), vI v1, vI v2, vI v3, vI v4, uu, uu] [] NF (mk Γ x) := by
  intro n
  induction n with
  | zero =>
    intro v1 v2 v3 v4 r1 r2 r3 r4 h
    rw [M_X11_alike_17.eq_1] at h
    exact h.elim
  | succ n ih =>
    intro v1 v2 v3 v4 r1 r2 r3 r4 h
    rw [M_X11_alike_17.eq_2] at h
    refine V_iload_4 dX11_alike_17 ?_
    refine V_aload_0 dX11_alike_19 ?_
    refine V_gI dX11_alike_20 fl_R_145 ly_83 (by decide) wn_83_3 ?_
    refine V_icmp_ge 111 dX11_alike_23 (by decide) r4 (hx _ _) ⟨fun c3 => ?_, fun c3 => ?_⟩
    · have h := h.1 c3
      refine V_iinc_3 (a3 := uu) dX11_alike_111 rfl ?_
      refine V_goto 4 dX11_alike_114 (by decide) ?_
      obtain ⟨g4, h⟩ := h
      refine V_fg_4 ?_
      exact hK4 _ _ _ r1 r2 g4 h
    · have h := h.2 c3
      refine V_iconst dX11_alike_26 ?_
      refine V_istore_5 dX11_alike_27 rfl rfl ?_
      refine V_iconst dX11_alike_29 ?_
      refine V_istore_6 dX11_alike_30 rfl rfl ?_
      obtain ⟨m9, h⟩ := h
      exact w_X11_alike_32 hx (hK4) (ih) m9 _ _ _ _ _ _ r1 r2 r3 r4 (rgL rfl) (rgL rfl) h
set_option maxRecDepth 100000 in
theorem w_X11_alike_4 {Γ : GE} {q : Int → Prop} {x : XM} (hx : WX x) : ∀ (n : Nat) (v1 : Int) (v2 : Int) (v3 : Int) , Rg v1 → Rg v2 → Rg v3 → M_X11_alike_4 q x n v1 v2 v3 → V Γ 1 NF NF D_X11_alike (QI Γ x q) 4 [.ref (gB Γ + 83), vI v1, vI v2, vI v3, uu, uu, uu] [] NF (mk Γ x) := by
  intro n
  induction n with
  | zero =>
    intro v1 v2 v3 r1 r2 r3 h
    rw [M_X11_alike_4.eq_1] at h
    exact h.elim
  | succ n ih =>
    intro v1 v2 v3 r1 r2 r3 h
    rw [M_X11_alike_4.eq_2] at h
    refine V_iload_3 dX11_alike_4 ?_
    refine V_aload_0 dX11_alike_5 ?_
    refine V_gI dX11_alike_6 fl_R_145 ly_83 (by decide) wn_83_3 ?_
    refine V_icmp_ge 117 dX11_alike_9 (by decide) r3 (hx _ _) ⟨fun c1 => ?_, fun c1 => ?_⟩
    · have h := h.1 c1
      refine V_iload_1 dX11_alike_117 ?_
      refine V_iconst dX11_alike_118 ?_
      refine V_icmp_ne 126 dX11_alike_119 (by decide) r1 (rgL rfl) ⟨fun c2 => ?_, fun c2 => ?_⟩
      · have h := h.1 c2
        refine V_iconst dX11_alike_126 ?_
        exact V_ireturn dX11_alike_127 rfl ⟨rfl, _, rfl, (rgL rfl), h⟩
      · have h := h.2 c2
        refine V_iload_2 dX11_alike_122 ?_
        refine V_goto 127 dX11_alike_123 (by decide) ?_
        exact V_ireturn dX11_alike_127 rfl ⟨rfl, _, rfl, r2, h⟩
    · have h := h.2 c1
      refine V_iload_3 dX11_alike_12 ?_
      refine V_iconst dX11_alike_13 ?_
      refine V_iadd dX11_alike_14 ?_
      refine V_istore_4 dX11_alike_15 rfl rfl ?_
      obtain ⟨g21, h⟩ := h
      obtain ⟨m9, h⟩ := h
      exact w_X11_alike_17 hx (ih) m9 _ _ _ _ r1 r2 r3 g21 h
set_option maxRecDepth 100000 in
theorem w_X11_alike {Γ : GE} {x : XM} (hx : WX x) {v1 : Int} {q : Int → Prop} (r1 : Rg v1) (h : M_X11_alike x v1 q) : CV Γ 1 NF NF D_X11_alike [.ref (gB Γ + 83), vI v1] (mk Γ x) (QI Γ x q) := by
  refine CV.of rfl (cat_all rfl) (Nat.le_of_ble_eq_true rfl) ?_
  show V Γ 1 NF NF D_X11_alike (QI Γ x q) 0 [.ref (gB Γ + 83), vI v1, uu, uu, uu, uu, uu] [] NF (mk Γ x)
  unfold M_X11_alike at h
  refine V_iconst dX11_alike_0 ?_
  refine V_istore_2 dX11_alike_1 rfl rfl ?_
  refine V_iconst dX11_alike_2 ?_
  refine V_istore_3 dX11_alike_3 rfl rfl ?_
  obtain ⟨m9, h⟩ := h
  exact w_X11_alike_4 hx m9 _ _ _ r1 (rgL rfl) (rgL rfl) h
def M_X10_child_20 (q : Int → Prop) (x : XM) : Nat → Int → Int64 → Int → Prop
  | 0, _, _, _ => False
  | n + 1, v1, w2, v4 =>
  ((v1 ≤ v4 → q (jl2i w2)) ∧ (¬ (v1 ≤ v4) → M_X0_errs x  (fun z4 => (Rg (v4 + 1)) ∧ (M_X10_child_20 q x n) v1 ((w2 * (ji2l (100 - z4))) / 100) (v4 + 1))))
def M_X10_child (x : XM) (v1 : Int) (q : Int → Prop) : Prop :=
  ((v1 < 0 → q (-1000000002)) ∧ (¬ (v1 < 0) → ((v1 ≤ 60 → ∃ m : Nat, M_X10_child_20 q x m v1 1000000000 0) ∧ (¬ (v1 ≤ 60) → q (-1000000002)))))
set_option maxRecDepth 100000 in
theorem w_X10_child_20 {Γ : GE} {q : Int → Prop} {x : XM} (hx : WX x) : ∀ (n : Nat) (v1 : Int) (w2 : Int64) (v4 : Int) , Rg v1 → Rg v4 → M_X10_child_20 q x n v1 w2 v4 → V Γ 2 NF NF D_X10_child (QI Γ x q) 20 [.ref (gB Γ + 0), vI v1, .long w2, uu, vI v4] [] NF (mk Γ x) := by
  intro n
  induction n with
  | zero =>
    intro v1 w2 v4 r1 r4 h
    rw [M_X10_child_20.eq_1] at h
    exact h.elim
  | succ n ih =>
    intro v1 w2 v4 r1 r4 h
    rw [M_X10_child_20.eq_2] at h
    refine V_iload_4 dX10_child_20 ?_
    refine V_iload_1 dX10_child_22 ?_
    refine V_icmp_ge 50 dX10_child_23 (by decide) r4 r1 ⟨fun c3 => ?_, fun c3 => ?_⟩
    · have h := h.1 c3
      refine V_lload_2 dX10_child_50 ?_
      refine V_l2i dX10_child_51 ?_
      exact V_ireturn dX10_child_52 rfl ⟨rfl, _, rfl, (Rg.of _), h⟩
    · have h := h.2 c3
      refine V_lload_2 dX10_child_26 ?_
      refine V_bipush dX10_child_27 (by decide) ?_
      refine V_aload_0 dX10_child_29 ?_
      refine V_gR dX10_child_30 fl_T_19 ly_0 (by decide) wr_0_1 ?_
      refine V_cVI0 (My := D_X0_errs) dX10_child_33 ml_T_120 ce_X0_errs ly_3 (by decide) cl_0 (by decide) (Nat.le_refl _) (Nat.le_refl _) (by decide) (sumL rfl) (w_X0_errs hx h) (fun z4 hz4 h => ?_)
      refine V_isub dX10_child_36 ?_
      refine V_i2l dX10_child_37 ?_
      refine V_lmul dX10_child_38 ?_
      refine V_ldc2 dX10_child_39 kl_T_262 ?_
      refine V_ldiv dX10_child_42 (by decide) ?_
      refine V_lstore_2 dX10_child_43 rfl rfl ?_
      refine V_iinc_4 (a4 := uu) dX10_child_44 rfl ?_
      refine V_goto 20 dX10_child_47 (by decide) ?_
      obtain ⟨g5, h⟩ := h
      exact ih _ _ _ r1 g5 h
set_option maxRecDepth 100000 in
theorem w_X10_child {Γ : GE} {x : XM} (hx : WX x) {v1 : Int} {q : Int → Prop} (r1 : Rg v1) (h : M_X10_child x v1 q) : CV Γ 2 NF NF D_X10_child [.ref (gB Γ + 0), vI v1] (mk Γ x) (QI Γ x q) := by
  refine CV.of rfl (cat_all rfl) (Nat.le_of_ble_eq_true rfl) ?_
  show V Γ 2 NF NF D_X10_child (QI Γ x q) 0 [.ref (gB Γ + 0), vI v1, uu, uu, uu] [] NF (mk Γ x)
  unfold M_X10_child at h
  refine V_iload_1 dX10_child_0 ?_
  refine V_if_lt 10 dX10_child_1 (by decide) r1 ⟨fun c1 => ?_, fun c1 => ?_⟩
  · have h := h.1 c1
    refine V_ldc dX10_child_10 kc_T_78 ?_
    exact V_ireturn dX10_child_12 rfl ⟨rfl, _, rfl, (rgL rfl), h⟩
  · have h := h.2 c1
    refine V_iload_1 dX10_child_4 ?_
    refine V_bipush dX10_child_5 (by decide) ?_
    refine V_icmp_le 13 dX10_child_7 (by decide) r1 (rgL rfl) ⟨fun c2 => ?_, fun c2 => ?_⟩
    · have h := h.1 c2
      refine V_ldc2 dX10_child_13 kl_T_260 ?_
      refine V_lstore_2 dX10_child_16 rfl rfl ?_
      refine V_iconst dX10_child_17 ?_
      refine V_istore_4 dX10_child_18 rfl rfl ?_
      obtain ⟨m9, h⟩ := h
      exact w_X10_child_20 hx m9 _ _ _ r1 (rgL rfl) h
    · have h := h.2 c2
      refine V_ldc dX10_child_10 kc_T_78 ?_
      exact V_ireturn dX10_child_12 rfl ⟨rfl, _, rfl, (rgL rfl), h⟩
def M_X11_child_20 (q : Int → Prop) (x : XM) : Nat → Int → Int64 → Int → Prop
  | 0, _, _, _ => False
  | n + 1, v1, w2, v4 =>
  ((v1 ≤ v4 → q (jl2i w2)) ∧ (¬ (v1 ≤ v4) → (Rg (v4 + 1)) ∧ (M_X11_child_20 q x n) v1 ((w2 * (ji2l (100 - (x 83 2)))) / 100) (v4 + 1)))
def M_X11_child (x : XM) (v1 : Int) (q : Int → Prop) : Prop :=
  M_X11_in x v1 0 60  (fun z1 => ((¬ z1 = 0 → ∃ m : Nat, M_X11_child_20 q x m v1 1000000000 0) ∧ (z1 = 0 → q (-1000000002))))
set_option maxRecDepth 100000 in
theorem w_X11_child_20 {Γ : GE} {q : Int → Prop} {x : XM} (hx : WX x) : ∀ (n : Nat) (v1 : Int) (w2 : Int64) (v4 : Int) , Rg v1 → Rg v4 → M_X11_child_20 q x n v1 w2 v4 → V Γ 1 NF NF D_X11_child (QI Γ x q) 20 [.ref (gB Γ + 83), vI v1, .long w2, uu, vI v4] [] NF (mk Γ x) := by
  intro n
  induction n with
  | zero =>
    intro v1 w2 v4 r1 r4 h
    rw [M_X11_child_20.eq_1] at h
    exact h.elim
  | succ n ih =>
    intro v1 w2 v4 r1 r4 h
    rw [M_X11_child_20.eq_2] at h
    refine V_iload_4 dX11_child_20 ?_
    refine V_iload_1 dX11_child_22 ?_
    refine V_icmp_ge 47 dX11_child_23 (by decide) r4 r1 ⟨fun c3 => ?_, fun c3 => ?_⟩
    · have h := h.1 c3
      refine V_lload_2 dX11_child_47 ?_
      refine V_l2i dX11_child_48 ?_
      exact V_ireturn dX11_child_49 rfl ⟨rfl, _, rfl, (Rg.of _), h⟩
    · have h := h.2 c3
      refine V_lload_2 dX11_child_26 ?_
      refine V_bipush dX11_child_27 (by decide) ?_
      refine V_aload_0 dX11_child_29 ?_
      refine V_gI dX11_child_30 fl_R_142 ly_83 (by decide) wn_83_2 ?_
      refine V_isub dX11_child_33 ?_
      refine V_i2l dX11_child_34 ?_
      refine V_lmul dX11_child_35 ?_
      refine V_ldc2 dX11_child_36 kl_R_279 ?_
      refine V_ldiv dX11_child_39 (by decide) ?_
      refine V_lstore_2 dX11_child_40 rfl rfl ?_
      refine V_iinc_4 (a4 := uu) dX11_child_41 rfl ?_
      refine V_goto 20 dX11_child_44 (by decide) ?_
      obtain ⟨g4, h⟩ := h
      exact ih _ _ _ r1 g4 h
set_option maxRecDepth 100000 in
theorem w_X11_child {Γ : GE} {x : XM} (hx : WX x) {v1 : Int} {q : Int → Prop} (r1 : Rg v1) (h : M_X11_child x v1 q) : CV Γ 1 NF NF D_X11_child [.ref (gB Γ + 83), vI v1] (mk Γ x) (QI Γ x q) := by
  refine CV.of rfl (cat_all rfl) (Nat.le_of_ble_eq_true rfl) ?_
  show V Γ 1 NF NF D_X11_child (QI Γ x q) 0 [.ref (gB Γ + 83), vI v1, uu, uu, uu] [] NF (mk Γ x)
  unfold M_X11_child at h
  refine V_iload_1 dX11_child_0 ?_
  refine V_iconst dX11_child_1 ?_
  refine V_bipush dX11_child_2 (by decide) ?_
  refine V_cSI3 (My := D_X11_in) dX11_child_4 ml_R_73 ce_X11_in (Nat.le_refl _) (Nat.le_refl _) (by decide) (sumL rfl) (w_X11_in hx r1 (rgL rfl) (rgL rfl) h) (fun z1 hz1 h => ?_)
  refine V_if_ne 13 dX11_child_7 (by decide) hz1 ⟨fun c2 => ?_, fun c2 => ?_⟩
  · have h := h.1 c2
    refine V_ldc2 dX11_child_13 kl_R_277 ?_
    refine V_lstore_2 dX11_child_16 rfl rfl ?_
    refine V_iconst dX11_child_17 ?_
    refine V_istore_4 dX11_child_18 rfl rfl ?_
    obtain ⟨m9, h⟩ := h
    exact w_X11_child_20 hx m9 _ _ _ r1 (rgL rfl) h
  · have h := h.2 c2
    refine V_ldc dX11_child_10 kc_R_77 ?_
    exact V_ireturn dX11_child_12 rfl ⟨rfl, _, rfl, (rgL rfl), h⟩
def M_X1_add (x : XM) (v1 : Int) (v2 : Int) (q : XM → Prop) : Prop :=
  (0 ≤ (x 60 2) ∧ (x 60 2) < 15) ∧ (∀ x2 : XM, x2 = uX x 61 (((x 60 2)).toNat) v1 → (0 ≤ (x2 60 2) ∧ (x2 60 2) < 15) ∧ (∀ x4 : XM, x4 = uX x2 62 (((x2 60 2)).toNat) v2 → (Rg ((x4 60 2) + 1)) ∧ (∀ x6 : XM, x6 = uX x4 60 2 ((x4 60 2) + 1) → q x6)))
set_option maxRecDepth 100000 in
theorem w_X1_add {Γ : GE} {x : XM} (hx : WX x) {v1 v2 : Int} {q : XM → Prop} (r1 : Rg v1) (r2 : Rg v2) (h : M_X1_add x v1 v2 q) : CV Γ 0 NF NF D_X1_add [.ref (gB Γ + 60), vI v1, vI v2] (mk Γ x) (QU Γ q) := by
  refine CV.of rfl (cat_all rfl) (Nat.le_of_ble_eq_true rfl) ?_
  show V Γ 0 NF NF D_X1_add (QU Γ q) 0 [.ref (gB Γ + 60), vI v1, vI v2] [] NF (mk Γ x)
  unfold M_X1_add at h
  refine V_aload_0 dX1_add_0 ?_
  refine V_gR dX1_add_1 fl_Book_9 ly_60 (by decide) wr_60_0 ?_
  refine V_aload_0 dX1_add_4 ?_
  refine V_gI dX1_add_5 fl_Book_18 ly_60 (by decide) wn_60_2 ?_
  refine V_iload_1 dX1_add_8 ?_
  obtain ⟨g1, h⟩ := h
  refine V_sIe dX1_add_9 ly_61 (by decide) (by decide) g1 (fun x2 ex2 => ?_)
  have h := h x2 ex2
  have hx2 := hx.upE r1 ex2
  refine V_aload_0 dX1_add_10 ?_
  refine V_gR dX1_add_11 fl_Book_15 ly_60 (by decide) wr_60_1 ?_
  refine V_aload_0 dX1_add_14 ?_
  refine V_gI dX1_add_15 fl_Book_18 ly_60 (by decide) wn_60_2 ?_
  refine V_iload_2 dX1_add_18 ?_
  obtain ⟨g3, h⟩ := h
  refine V_sIe dX1_add_19 ly_62 (by decide) (by decide) g3 (fun x4 ex4 => ?_)
  have h := h x4 ex4
  have hx4 := hx2.upE r2 ex4
  refine V_aload_0 dX1_add_20 ?_
  refine V_dup dX1_add_21 rfl ?_
  refine V_gI dX1_add_22 fl_Book_18 ly_60 (by decide) wn_60_2 ?_
  refine V_iconst dX1_add_25 ?_
  refine V_iadd dX1_add_26 ?_
  obtain ⟨g5, h⟩ := h
  refine V_pIe dX1_add_27 fl_Book_18 ly_60 (by decide) wn_60_2 (fun x6 ex6 => ?_)
  have h := h x6 ex6
  have hx6 := hx4.upE g5 ex6
  exact V_vreturn dX1_add_30 rfl ⟨_, rfl, hx6, rfl, h⟩
