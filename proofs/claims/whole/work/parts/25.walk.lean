def M_X11_passes (x : XM) (v1 : Int) (v2 : Int) (q : Int → Prop) : Prop :=
  (0 ≤ v1) ∧ (0 ≤ (v1 / 10)) ∧ (0 ≤ v1) ∧ (0 ≤ v1) ∧ M_X11_markOf x v2 (v1 / 30)  (fun z5 => M_X11_isBy x ((v1 / 10) % 3) (v1 % 10) z5  (fun z6 => (z6 = 0 ∨ z6 = 1) ∧ q z6))
set_option maxRecDepth 100000 in
theorem w_X11_passes {Γ : GE} {x : XM} (hx : WX x) {v1 v2 : Int} {q : Int → Prop} (r1 : Rg v1) (r2 : Rg v2) (h : M_X11_passes x v1 v2 q) : CV Γ 1 NF NF D_X11_passes [.ref (gB Γ + 83), vI v1, vI v2] (mk Γ x) (QI Γ x q) := by
  refine CV.of rfl (cat_all rfl) (Nat.le_of_ble_eq_true rfl) ?_
  show V Γ 1 NF NF D_X11_passes (QI Γ x q) 0 [.ref (gB Γ + 83), vI v1, vI v2] [] NF (mk Γ x)
  unfold M_X11_passes at h
  refine V_iload_1 dX11_passes_0 ?_
  refine V_bipush dX11_passes_1 (by decide) ?_
  obtain ⟨g1, h⟩ := h
  refine V_idiv dX11_passes_3 r1 (rgL rfl) g1 (lt0 rfl) ?_
  refine V_iconst dX11_passes_4 ?_
  obtain ⟨g2, h⟩ := h
  refine V_irem dX11_passes_5 (rgDiv r1 g1 (lt0 rfl)) (rgL rfl) g2 (lt0 rfl) ?_
  refine V_iload_1 dX11_passes_6 ?_
  refine V_bipush dX11_passes_7 (by decide) ?_
  obtain ⟨g3, h⟩ := h
  refine V_irem dX11_passes_9 r1 (rgL rfl) g3 (lt0 rfl) ?_
  refine V_aload_0 dX11_passes_10 ?_
  refine V_iload_2 dX11_passes_11 ?_
  refine V_iload_1 dX11_passes_12 ?_
  refine V_bipush dX11_passes_13 (by decide) ?_
  obtain ⟨g4, h⟩ := h
  refine V_idiv dX11_passes_15 r1 (rgL rfl) g4 (lt0 rfl) ?_
  refine V_cVI2 (My := D_X11_markOf) dX11_passes_16 ml_R_163 ce_X11_markOf ly_83 (by decide) cl_11 (by decide) (Nat.le_refl _) (Nat.le_refl _) (by decide) (sumL rfl) (w_X11_markOf hx r2 (rgDiv r1 g4 (lt0 rfl)) h) (fun z5 hz5 h => ?_)
  refine V_cSI3 (My := D_X11_isBy) dX11_passes_19 ml_R_166 ce_X11_isBy (Nat.le_refl _) (Nat.le_refl _) (by decide) (sumL rfl) (w_X11_isBy hx (rgRem (rgL rfl) (lt0 rfl)) (rgRem (rgL rfl) (lt0 rfl)) hz5 h) (fun z6 hz6 h => ?_)
  obtain ⟨g7, h⟩ := h
  exact V_zreturn dX11_passes_22 rfl g7 ⟨rfl, _, rfl, hz6, h⟩
def M_X11_measure_63 (q : XM → Prop) (K7 : XM → Int → Int → Prop) (K18 : XM → Int → Int → Int → Int → Prop) (x : XM) (v1 : Int) (v2 : Int) (v4 : Int) (s0 : Int) (s1 : Int) : Prop :=
  ((¬ s1 = s0 → (Rg (v4 + 1)) ∧ K18 x v1 v2 0 (v4 + 1)) ∧ (s1 = s0 → (Rg (v4 + 1)) ∧ K18 x v1 v2 1 (v4 + 1)))
def M_X11_measure_18 (q : XM → Prop) (K7 : XM → Int → Int → Prop) : Nat → XM → Int → Int → Int → Int → Prop
  | 0, _, _, _, _, _ => False
  | n + 1, x, v1, v2, v3, v4 =>
  (((x 83 3) ≤ v4 → (0 ≤ v2 ∧ v2 < 120) ∧ (v3 = 0 ∨ v3 = 1) ∧ (∀ x6 : XM, x6 = uX x 98 (v2.toNat) v3 → ((v3 = 0 → (Rg ((x6 83 33) + 0)) ∧ (∀ x9 : XM, x9 = uX x6 83 33 ((x6 83 33) + 0) → (Rg (v2 + 1)) ∧ K7 x9 v1 (v2 + 1))) ∧ (¬ v3 = 0 → (Rg ((x6 83 33) + 1)) ∧ (∀ x12 : XM, x12 = uX x6 83 33 ((x6 83 33) + 1) → (Rg (v2 + 1)) ∧ K7 x12 v1 (v2 + 1)))))) ∧ (¬ ((x 83 3) ≤ v4) → ((v3 = 0 → (Rg (v4 + 1)) ∧ (M_X11_measure_18 q K7 n) x v1 v2 0 (v4 + 1)) ∧ (¬ v3 = 0 → M_X11_heapOf x v4  (fun z16 => ((z16 = (-1) → (Rg (v4 + 1)) ∧ (M_X11_measure_18 q K7 n) x v1 v2 1 (v4 + 1)) ∧ (¬ z16 = (-1) → M_X11_passes x v2 v4  (fun z19 => M_X11_heapOf x v4  (fun z20 => ((¬ z20 = v1 → M_X11_measure_63 q K7 (M_X11_measure_18 q K7 n) x v1 v2 v4 0 z19) ∧ (z20 = v1 → M_X11_measure_63 q K7 (M_X11_measure_18 q K7 n) x v1 v2 v4 1 z19)))))))))))
def M_X11_measure_7 (q : XM → Prop) : Nat → XM → Int → Int → Prop
  | 0, _, _, _ => False
  | n + 1, x, v1, v2 =>
  ((120 ≤ v2 → q x) ∧ (¬ (120 ≤ v2) → ∃ m : Nat, M_X11_measure_18 q (M_X11_measure_7 q n) m x v1 v2 1 0))
def M_X11_measure (x : XM) (v1 : Int) (q : XM → Prop) : Prop :=
  ∀ x1 : XM, x1 = uX x 83 33 0 → (∃ m : Nat, M_X11_measure_7 q m x1 v1 0)
set_option maxRecDepth 100000 in
theorem w_X11_measure_63 {Γ : GE} {q : XM → Prop} {K7 : XM → Int → Int → Prop} {K18 : XM → Int → Int → Int → Int → Prop} (hK7 : ∀ (x : XM) (v1 : Int) (v2 : Int) , WX x → Rg v1 → Rg v2 → K7 x v1 v2 → V Γ 2 NF NF D_X11_measure (QU Γ q) 7 [.ref (gB Γ + 83), vI v1, vI v2, uu, uu] [] NF (mk Γ x)) (hK18 : ∀ (x : XM) (v1 : Int) (v2 : Int) (v3 : Int) (v4 : Int) , WX x → Rg v1 → Rg v2 → Rg v3 → Rg v4 → K18 x v1 v2 v3 v4 → V Γ 2 NF NF D_X11_measure (QU Γ q) 18 [.ref (gB Γ + 83), vI v1, vI v2, vI v3, vI v4] [] NF (mk Γ x)) : ∀ (x : XM) (v1 : Int) (v2 : Int) (v4 : Int) (s0 : Int) (s1 : Int) , WX x → Rg v1 → Rg v2 → Rg v4 → Rg s0 → Rg s1 → M_X11_measure_63 q K7 K18 x v1 v2 v4 s0 s1 → V Γ 2 NF NF D_X11_measure (QU Γ q) 63 [.ref (gB Γ + 83), vI v1, vI v2, uu, vI v4] [vI s0, vI s1] NF (mk Γ x) := by
  intro x v1 v2 v4 s0 s1 hx r1 r2 r4 rs0 rs1 h
  unfold M_X11_measure_63 at h
  refine V_icmp_ne 70 dX11_measure_63 (by decide) rs1 rs0 ⟨fun c22 => ?_, fun c22 => ?_⟩
  · have h := h.1 c22
    refine V_iconst dX11_measure_70 ?_
    refine V_istore_3 dX11_measure_71 rfl rfl ?_
    refine V_iinc_4 (a4 := uu) dX11_measure_72 rfl ?_
    refine V_goto 18 dX11_measure_75 (by decide) ?_
    obtain ⟨g23, h⟩ := h
    exact hK18 _ _ _ _ _ hx r1 r2 (rgL rfl) g23 h
  · have h := h.2 c22
    refine V_iconst dX11_measure_66 ?_
    refine V_goto 71 dX11_measure_67 (by decide) ?_
    refine V_istore_3 dX11_measure_71 rfl rfl ?_
    refine V_iinc_4 (a4 := uu) dX11_measure_72 rfl ?_
    refine V_goto 18 dX11_measure_75 (by decide) ?_
    obtain ⟨g24, h⟩ := h
    exact hK18 _ _ _ _ _ hx r1 r2 (rgL rfl) g24 h
set_option maxRecDepth 100000 in
theorem w_X11_measure_18 {Γ : GE} {q : XM → Prop} {K7 : XM → Int → Int → Prop} (hK7 : ∀ (x : XM) (v1 : Int) (v2 : Int) , WX x → Rg v1 → Rg v2 → K7 x v1 v2 → V Γ 2 NF NF D_X11_measure (QU Γ q) 7 [.ref (gB Γ + 83), vI v1, vI v2, uu, uu] [] NF (mk Γ x)) : ∀ (n : Nat) (x : XM) (v1 : Int) (v2 : Int) (v3 : Int) (v4 : Int) , WX x → Rg v1 → Rg v2 → Rg v3 → Rg v4 → M_X11_measure_18 q K7 n x v1 v2 v3 v4 → V Γ 2 NF NF D_X11_measure (QU Γ q) 18 [.ref (gB Γ + 83), vI v1, vI v2, vI v3, vI v4] [] NF (mk Γ x) := by
  intro n
  induction n with
  | zero =>
    intro x v1 v2 v3 v4 hx r1 r2 r3 r4 h
    rw [M_X11_measure_18.eq_1] at h
    exact h.elim
  | succ n ih =>
    intro x v1 v2 v3 v4 hx r1 r2 r3 r4 h
    rw [M_X11_measure_18.eq_2] at h
    refine V_iload_4 dX11_measure_18 ?_
    refine V_aload_0 dX11_measure_20 ?_
    refine V_gI dX11_measure_21 fl_R_145 ly_83 (by decide) wn_83_3 ?_
    refine V_icmp_ge 78 dX11_measure_24 (by decide) r4 (hx _ _) ⟨fun c3 => ?_, fun c3 => ?_⟩
    · have h := h.1 c3
      refine V_aload_0 dX11_measure_78 ?_
      refine V_gR dX11_measure_79 fl_R_54 ly_83 (by decide) wr_83_32 ?_
      refine V_iload_2 dX11_measure_82 ?_
      refine V_iload_3 dX11_measure_83 ?_
      obtain ⟨g4, h⟩ := h
      obtain ⟨g5, h⟩ := h
      refine V_sZe dX11_measure_84 ly_98 (by decide) (by decide) g4 g5 (fun x6 ex6 => ?_)
      have h := h x6 ex6
      have hx6 := hx.upE r3 ex6
      refine V_aload_0 dX11_measure_85 ?_
      refine V_dup dX11_measure_86 rfl ?_
      refine V_gI dX11_measure_87 fl_R_249 ly_83 (by decide) wn_83_33 ?_
      refine V_iload_3 dX11_measure_90 ?_
      refine V_if_eq 98 dX11_measure_91 (by decide) r3 ⟨fun c7 => ?_, fun c7 => ?_⟩
      · have h := h.1 c7
        refine V_iconst dX11_measure_98 ?_
        refine V_iadd dX11_measure_99 ?_
        obtain ⟨g8, h⟩ := h
        refine V_pIe dX11_measure_100 fl_R_249 ly_83 (by decide) wn_83_33 (fun x9 ex9 => ?_)
        have h := h x9 ex9
        have hx9 := hx6.upE g8 ex9
        refine V_iinc_2 (a2 := uu) dX11_measure_103 rfl ?_
        refine V_goto 7 dX11_measure_106 (by decide) ?_
        obtain ⟨g10, h⟩ := h
        refine V_fg_3 ?_
        refine V_fg_4 ?_
        exact hK7 _ _ _ hx9 r1 g10 h
      · have h := h.2 c7
        refine V_iconst dX11_measure_94 ?_
        refine V_goto 99 dX11_measure_95 (by decide) ?_
        refine V_iadd dX11_measure_99 ?_
        obtain ⟨g11, h⟩ := h
        refine V_pIe dX11_measure_100 fl_R_249 ly_83 (by decide) wn_83_33 (fun x12 ex12 => ?_)
        have h := h x12 ex12
        have hx12 := hx6.upE g11 ex12
        refine V_iinc_2 (a2 := uu) dX11_measure_103 rfl ?_
        refine V_goto 7 dX11_measure_106 (by decide) ?_
        obtain ⟨g13, h⟩ := h
        refine V_fg_3 ?_
        refine V_fg_4 ?_
        exact hK7 _ _ _ hx12 r1 g13 h
    · have h := h.2 c3
      refine V_iload_3 dX11_measure_27 ?_
      refine V_if_eq 70 dX11_measure_28 (by decide) r3 ⟨fun c14 => ?_, fun c14 => ?_⟩
      · have h := h.1 c14
        refine V_iconst dX11_measure_70 ?_
        refine V_istore_3 dX11_measure_71 rfl rfl ?_
        refine V_iinc_4 (a4 := uu) dX11_measure_72 rfl ?_
        refine V_goto 18 dX11_measure_75 (by decide) ?_
        obtain ⟨g15, h⟩ := h
        exact ih _ _ _ _ _ hx r1 r2 (rgL rfl) g15 h
      · have h := h.2 c14
        refine V_aload_0 dX11_measure_31 ?_
        refine V_iload_4 dX11_measure_32 ?_
        refine V_cVI1 (My := D_X11_heapOf) dX11_measure_34 ml_R_189 ce_X11_heapOf ly_83 (by decide) cl_11 (by decide) (Nat.le_refl _) (Nat.le_refl _) (by decide) (sumL rfl) (w_X11_heapOf hx r4 h) (fun z16 hz16 h => ?_)
        refine V_iconst dX11_measure_37 ?_
        refine V_icmp_eq 66 dX11_measure_38 (by decide) hz16 (rgL rfl) ⟨fun c17 => ?_, fun c17 => ?_⟩
        · have h := h.1 c17
          refine V_iconst dX11_measure_66 ?_
          refine V_goto 71 dX11_measure_67 (by decide) ?_
          refine V_istore_3 dX11_measure_71 rfl rfl ?_
          refine V_iinc_4 (a4 := uu) dX11_measure_72 rfl ?_
          refine V_goto 18 dX11_measure_75 (by decide) ?_
          obtain ⟨g18, h⟩ := h
          exact ih _ _ _ _ _ hx r1 r2 (rgL rfl) g18 h
        · have h := h.2 c17
          refine V_aload_0 dX11_measure_41 ?_
          refine V_iload_2 dX11_measure_42 ?_
          refine V_iload_4 dX11_measure_43 ?_
          refine V_cVI2 (My := D_X11_passes) dX11_measure_45 ml_R_252 ce_X11_passes ly_83 (by decide) cl_11 (by decide) (Nat.le_refl _) (Nat.le_refl _) (by decide) (sumL rfl) (w_X11_passes hx r2 r4 h) (fun z19 hz19 h => ?_)
          refine V_aload_0 dX11_measure_48 ?_
          refine V_iload_4 dX11_measure_49 ?_
          refine V_cVI1 (My := D_X11_heapOf) dX11_measure_51 ml_R_189 ce_X11_heapOf ly_83 (by decide) cl_11 (by decide) (Nat.le_refl _) (Nat.le_refl _) (by decide) (sumL rfl) (w_X11_heapOf hx r4 h) (fun z20 hz20 h => ?_)
          refine V_iload_1 dX11_measure_54 ?_
          refine V_icmp_ne 62 dX11_measure_55 (by decide) hz20 r1 ⟨fun c21 => ?_, fun c21 => ?_⟩
          · have h := h.1 c21
            refine V_iconst dX11_measure_62 ?_
            refine V_fg_3 ?_
            exact w_X11_measure_63 (hK7) (ih) _ _ _ _ _ _ hx r1 r2 r4 (rgL rfl) hz19 h
          · have h := h.2 c21
            refine V_iconst dX11_measure_58 ?_
            refine V_goto 63 dX11_measure_59 (by decide) ?_
            refine V_fg_3 ?_
            exact w_X11_measure_63 (hK7) (ih) _ _ _ _ _ _ hx r1 r2 r4 (rgL rfl) hz19 h
set_option maxRecDepth 100000 in
theorem w_X11_measure_7 {Γ : GE} {q : XM → Prop} : ∀ (n : Nat) (x : XM) (v1 : Int) (v2 : Int) , WX x → Rg v1 → Rg v2 → M_X11_measure_7 q n x v1 v2 → V Γ 2 NF NF D_X11_measure (QU Γ q) 7 [.ref (gB Γ + 83), vI v1, vI v2, uu, uu] [] NF (mk Γ x) := by
  intro n
  induction n with
  | zero =>
    intro x v1 v2 hx r1 r2 h
    rw [M_X11_measure_7.eq_1] at h
    exact h.elim
  | succ n ih =>
    intro x v1 v2 hx r1 r2 h
    rw [M_X11_measure_7.eq_2] at h
    refine V_iload_2 dX11_measure_7 ?_
    refine V_bipush dX11_measure_8 (by decide) ?_
    refine V_icmp_ge 109 dX11_measure_10 (by decide) r2 (rgL rfl) ⟨fun c2 => ?_, fun c2 => ?_⟩
    · have h := h.1 c2
      exact V_vreturn dX11_measure_109 rfl ⟨_, rfl, hx, rfl, h⟩
    · have h := h.2 c2
      refine V_iconst dX11_measure_13 ?_
      refine V_istore_3 dX11_measure_14 rfl rfl ?_
      refine V_iconst dX11_measure_15 ?_
      refine V_istore_4 dX11_measure_16 rfl rfl ?_
      obtain ⟨m9, h⟩ := h
      exact w_X11_measure_18 (ih) m9 _ _ _ _ _ hx r1 r2 (rgL rfl) (rgL rfl) h
set_option maxRecDepth 100000 in
theorem w_X11_measure {Γ : GE} {x : XM} (hx : WX x) {v1 : Int} {q : XM → Prop} (r1 : Rg v1) (h : M_X11_measure x v1 q) : CV Γ 2 NF NF D_X11_measure [.ref (gB Γ + 83), vI v1] (mk Γ x) (QU Γ q) := by
  refine CV.of rfl (cat_all rfl) (Nat.le_of_ble_eq_true rfl) ?_
  show V Γ 2 NF NF D_X11_measure (QU Γ q) 0 [.ref (gB Γ + 83), vI v1, uu, uu, uu] [] NF (mk Γ x)
  unfold M_X11_measure at h
  refine V_aload_0 dX11_measure_0 ?_
  refine V_iconst dX11_measure_1 ?_
  refine V_pIe dX11_measure_2 fl_R_249 ly_83 (by decide) wn_83_33 (fun x1 ex1 => ?_)
  have h := h x1 ex1
  have hx1 := hx.upE (rgL rfl) ex1
  refine V_iconst dX11_measure_5 ?_
  refine V_istore_2 dX11_measure_6 rfl rfl ?_
  obtain ⟨m9, h⟩ := h
  exact w_X11_measure_7 m9 _ _ _ hx1 r1 (rgL rfl) h
def M_X11_fit_33 (q : Int → XM → Prop) : Nat → XM → Int → Int → Int → Prop
  | 0, _, _, _, _ => False
  | n + 1, x, v2, v3, v4 =>
  ((120 ≤ v4 → ((¬ v2 = (-1) → q (-1) x) ∧ (v2 = (-1) → q v3 x))) ∧ (¬ (120 ≤ v4) → (0 ≤ v4 ∧ v4 < 120) ∧ (((x 98 (v4.toNat)) = 0 → (Rg (v4 + 1)) ∧ (M_X11_fit_33 q n) x v2 v3 (v4 + 1)) ∧ (¬ (x 98 (v4.toNat)) = 0 → ((¬ v3 = v2 → (Rg (v3 + 1)) ∧ (Rg (v4 + 1)) ∧ (M_X11_fit_33 q n) x v2 (v3 + 1) (v4 + 1)) ∧ (v3 = v2 → q v4 x))))))
def M_X11_fit (x : XM) (v1 : Int) (v2 : Int) (q : Int → XM → Prop) : Prop :=
  M_X11_isHeap x v1  (fun z1 => ((¬ z1 = 0 → (Rg (1 + v1)) ∧ M_X11_setIn x (1 + v1)  (fun z4 => ((¬ z4 = 0 → M_X11_measure x v1  (fun x6 => ∃ m : Nat, M_X11_fit_33 q m x6 v2 0 0)) ∧ (z4 = 0 → q (-1000000003) x)))) ∧ (z1 = 0 → q (-1000000002) x)))
set_option maxRecDepth 100000 in
theorem w_X11_fit_33 {Γ : GE} {q : Int → XM → Prop} : ∀ (n : Nat) (x : XM) (v2 : Int) (v3 : Int) (v4 : Int) , WX x → Rg v2 → Rg v3 → Rg v4 → M_X11_fit_33 q n x v2 v3 v4 → V Γ 3 NF NF D_X11_fit (QE Γ q) 33 [.ref (gB Γ + 83), uu, vI v2, vI v3, vI v4] [] NF (mk Γ x) := by
  intro n
  induction n with
  | zero =>
    intro x v2 v3 v4 hx r2 r3 r4 h
    rw [M_X11_fit_33.eq_1] at h
    exact h.elim
  | succ n ih =>
    intro x v2 v3 v4 hx r2 r3 r4 h
    rw [M_X11_fit_33.eq_2] at h
    refine V_iload_4 dX11_fit_33 ?_
    refine V_bipush dX11_fit_35 (by decide) ?_
    refine V_icmp_ge 67 dX11_fit_37 (by decide) r4 (rgL rfl) ⟨fun c7 => ?_, fun c7 => ?_⟩
    · have h := h.1 c7
      refine V_iload_2 dX11_fit_67 ?_
      refine V_iconst dX11_fit_68 ?_
      refine V_icmp_ne 76 dX11_fit_69 (by decide) r2 (rgL rfl) ⟨fun c8 => ?_, fun c8 => ?_⟩
      · have h := h.1 c8
        refine V_iconst dX11_fit_76 ?_
        exact V_ireturn dX11_fit_77 rfl ⟨_, _, rfl, hx, rfl, (rgL rfl), h⟩
      · have h := h.2 c8
        refine V_iload_3 dX11_fit_72 ?_
        refine V_goto 77 dX11_fit_73 (by decide) ?_
        exact V_ireturn dX11_fit_77 rfl ⟨_, _, rfl, hx, rfl, r3, h⟩
    · have h := h.2 c7
      refine V_aload_0 dX11_fit_40 ?_
      refine V_gR dX11_fit_41 fl_R_54 ly_83 (by decide) wr_83_32 ?_
      refine V_iload_4 dX11_fit_44 ?_
      obtain ⟨g9, h⟩ := h
      refine V_aZ dX11_fit_46 ly_98 (by decide) (by decide) g9 ?_
      refine V_if_eq 61 dX11_fit_47 (by decide) (hx _ _) ⟨fun c10 => ?_, fun c10 => ?_⟩
      · have h := h.1 c10
        refine V_iinc_4 (a4 := uu) dX11_fit_61 rfl ?_
        refine V_goto 33 dX11_fit_64 (by decide) ?_
        obtain ⟨g11, h⟩ := h
        exact ih _ _ _ _ hx r2 r3 g11 h
      · have h := h.2 c10
        refine V_iload_3 dX11_fit_50 ?_
        refine V_iload_2 dX11_fit_51 ?_
        refine V_icmp_ne 58 dX11_fit_52 (by decide) r3 r2 ⟨fun c12 => ?_, fun c12 => ?_⟩
        · have h := h.1 c12
          refine V_iinc_3 (a3 := uu) dX11_fit_58 rfl ?_
          refine V_iinc_4 (a4 := uu) dX11_fit_61 rfl ?_
          refine V_goto 33 dX11_fit_64 (by decide) ?_
          obtain ⟨g13, h⟩ := h
          obtain ⟨g14, h⟩ := h
          exact ih _ _ _ _ hx r2 g13 g14 h
        · have h := h.2 c12
          refine V_iload_4 dX11_fit_55 ?_
          exact V_ireturn dX11_fit_57 rfl ⟨_, _, rfl, hx, rfl, r4, h⟩
set_option maxRecDepth 100000 in
theorem w_X11_fit {Γ : GE} {x : XM} (hx : WX x) {v1 v2 : Int} {q : Int → XM → Prop} (r1 : Rg v1) (r2 : Rg v2) (h : M_X11_fit x v1 v2 q) : CV Γ 3 NF NF D_X11_fit [.ref (gB Γ + 83), vI v1, vI v2] (mk Γ x) (QE Γ q) := by
  refine CV.of rfl (cat_all rfl) (Nat.le_of_ble_eq_true rfl) ?_
  show V Γ 3 NF NF D_X11_fit (QE Γ q) 0 [.ref (gB Γ + 83), vI v1, vI v2, uu, uu] [] NF (mk Γ x)
  unfold M_X11_fit at h
  refine V_iload_1 dX11_fit_0 ?_
  refine V_cSI1 (My := D_X11_isHeap) dX11_fit_1 ml_R_221 ce_X11_isHeap (Nat.le_refl _) (Nat.le_refl _) (by decide) (sumL rfl) (w_X11_isHeap hx r1 h) (fun z1 hz1 h => ?_)
  refine V_if_ne 10 dX11_fit_4 (by decide) hz1 ⟨fun c2 => ?_, fun c2 => ?_⟩
  · have h := h.1 c2
    refine V_aload_0 dX11_fit_10 ?_
    refine V_iconst dX11_fit_11 ?_
    refine V_iload_1 dX11_fit_12 ?_
    refine V_iadd dX11_fit_13 ?_
    obtain ⟨g3, h⟩ := h
    refine V_cVI1 (My := D_X11_setIn) dX11_fit_14 ml_R_183 ce_X11_setIn ly_83 (by decide) cl_11 (by decide) (Nat.le_refl _) (Nat.le_refl _) (by decide) (sumL rfl) (w_X11_setIn hx g3 h) (fun z4 hz4 h => ?_)
    refine V_if_ne 23 dX11_fit_17 (by decide) hz4 ⟨fun c5 => ?_, fun c5 => ?_⟩
    · have h := h.1 c5
      refine V_aload_0 dX11_fit_23 ?_
      refine V_iload_1 dX11_fit_24 ?_
      refine V_cVU1 (My := D_X11_measure) dX11_fit_25 ml_R_255 ce_X11_measure ly_83 (by decide) cl_11 (by decide) (Nat.le_refl _) (Nat.le_refl _) (by decide) (sumL rfl) (w_X11_measure hx r1 h) (fun x6 hx6 h => ?_)
      refine V_iconst dX11_fit_28 ?_
      refine V_istore_3 dX11_fit_29 rfl rfl ?_
      refine V_iconst dX11_fit_30 ?_
      refine V_istore_4 dX11_fit_31 rfl rfl ?_
      refine V_fg_1 ?_
      obtain ⟨m9, h⟩ := h
      exact w_X11_fit_33 m9 _ _ _ _ hx6 r2 (rgL rfl) (rgL rfl) h
    · have h := h.2 c5
      refine V_ldc dX11_fit_20 kc_R_224 ?_
      exact V_ireturn dX11_fit_22 rfl ⟨_, _, rfl, hx, rfl, (rgL rfl), h⟩
  · have h := h.2 c2
    refine V_ldc dX11_fit_7 kc_R_77 ?_
    exact V_ireturn dX11_fit_9 rfl ⟨_, _, rfl, hx, rfl, (rgL rfl), h⟩
def M_X4_countPassed_85 (q : Int → XM → Prop) (K54 : XM → Int → Int → Int → Int → Prop) : Nat → XM → Int → Int → Int → Int → Int → Int → Prop
  | 0, _, _, _, _, _, _, _ => False
  | n + 1, x, v2, v3, v4, v5, v6, v7 =>
  ((12 ≤ v7 → (Rg (v5 + 1)) ∧ K54 x v2 v3 v4 (v5 + 1)) ∧ (¬ (12 ≤ v7) → (0 ≤ v7 ∧ v7 < 12) ∧ (Rg ((x 66 (v7.toNat)) + (jand (jshr v6 v7) 1))) ∧ (0 ≤ v7 ∧ v7 < 12) ∧ (∀ x14 : XM, x14 = uX x 66 (v7.toNat) ((x 66 (v7.toNat)) + (jand (jshr v6 v7) 1)) → (Rg (v7 + 1)) ∧ (M_X4_countPassed_85 q K54 n) x14 v2 v3 v4 v5 v6 (v7 + 1))))
def M_X4_countPassed_54 (q : Int → XM → Prop) : Nat → XM → Int → Int → Int → Int → Prop
  | 0, _, _, _, _, _ => False
  | n + 1, x, v2, v3, v4, v5 =>
  ((120 ≤ v5 → q v4 x) ∧ (¬ (120 ≤ v5) → M_X4_passing x v5  (fun z5 => M_X4_fits x z5 v2 v3  (fun z6 => ((z6 = 0 → (Rg (v5 + 1)) ∧ (M_X4_countPassed_54 q n) x v2 v3 v4 (v5 + 1)) ∧ (¬ z6 = 0 → (Rg (v4 + 1)) ∧ ∃ m : Nat, M_X4_countPassed_85 q (M_X4_countPassed_54 q n) m x v2 v3 (v4 + 1) v5 z5 0))))))
def M_X4_countPassed_30 (q : Int → XM → Prop) : Nat → XM → Int → Int → Int → Int → Prop
  | 0, _, _, _, _, _ => False
  | n + 1, x, v2, v3, v4, v5 =>
  ((12 ≤ v5 → ∃ m : Nat, M_X4_countPassed_54 q m x v2 v3 v4 0) ∧ (¬ (12 ≤ v5) → (0 ≤ v5 ∧ v5 < 12) ∧ (∀ x18 : XM, x18 = uX x 66 (v5.toNat) 0 → (Rg (v5 + 1)) ∧ (M_X4_countPassed_30 q n) x18 v2 v3 v4 (v5 + 1))))
def M_X4_countPassed (x : XM) (v1 : Int) (q : Int → XM → Prop) : Prop :=
  M_X0_at x v1  (fun z1 => M_X0_from x 0 6  (fun z2 => ∃ m : Nat, M_X4_countPassed_30 q m x z1 (jand z2 (jxor z1 (-1))) 0 0))
set_option maxRecDepth 100000 in
theorem w_X4_countPassed_85 {Γ : GE} {q : Int → XM → Prop} {K54 : XM → Int → Int → Int → Int → Prop} (hK54 : ∀ (x : XM) (v2 : Int) (v3 : Int) (v4 : Int) (v5 : Int) , WX x → Rg v2 → Rg v3 → Rg v4 → Rg v5 → K54 x v2 v3 v4 v5 → V Γ 3 NF NF D_X4_countPassed (QE Γ q) 54 [.ref (gB Γ + 65), uu, vI v2, vI v3, vI v4, vI v5, uu, uu] [] NF (mk Γ x)) : ∀ (n : Nat) (x : XM) (v2 : Int) (v3 : Int) (v4 : Int) (v5 : Int) (v6 : Int) (v7 : Int) , WX x → Rg v2 → Rg v3 → Rg v4 → Rg v5 → Rg v6 → Rg v7 → M_X4_countPassed_85 q K54 n x v2 v3 v4 v5 v6 v7 → V Γ 3 NF NF D_X4_countPassed (QE Γ q) 85 [.ref (gB Γ + 65), uu, vI v2, vI v3, vI v4, vI v5, vI v6, vI v7] [] NF (mk Γ x) := by
  intro n
  induction n with
  | zero =>
    intro x v2 v3 v4 v5 v6 v7 hx r2 r3 r4 r5 r6 r7 h
    rw [M_X4_countPassed_85.eq_1] at h
    exact h.elim
  | succ n ih =>
    intro x v2 v3 v4 v5 v6 v7 hx r2 r3 r4 r5 r6 r7 h
    rw [M_X4_countPassed_85.eq_2] at h
    refine V_iload_7 dX4_countPassed_85 ?_
    refine V_bipush dX4_countPassed_87 (by decide) ?_
    refine V_icmp_ge 115 dX4_countPassed_89 (by decide) r7 (rgL rfl) ⟨fun c9 => ?_, fun c9 => ?_⟩
    · have h := h.1 c9
      refine V_iinc_5 (a5 := uu) dX4_countPassed_115 rfl ?_
      refine V_goto 54 dX4_countPassed_118 (by decide) ?_
      obtain ⟨g10, h⟩ := h
      refine V_fg_6 ?_
      refine V_fg_7 ?_
      exact hK54 _ _ _ _ _ hx r2 r3 r4 g10 h
    · have h := h.2 c9
      refine V_aload_0 dX4_countPassed_92 ?_
      refine V_gR dX4_countPassed_93 fl_Fitting_9 ly_65 (by decide) wr_65_1 ?_
      refine V_iload_7 dX4_countPassed_96 ?_
      refine V_dup2 dX4_countPassed_98 rfl rfl ?_
      obtain ⟨g11, h⟩ := h
      refine V_aI dX4_countPassed_99 ly_66 (by decide) (by decide) g11 ?_
      refine V_iload_6 dX4_countPassed_100 ?_
      refine V_iload_7 dX4_countPassed_102 ?_
      refine V_ishr dX4_countPassed_104 ?_
      refine V_iconst dX4_countPassed_105 ?_
      refine V_iand dX4_countPassed_106 ?_
      refine V_iadd dX4_countPassed_107 ?_
      obtain ⟨g12, h⟩ := h
      obtain ⟨g13, h⟩ := h
      refine V_sIe dX4_countPassed_108 ly_66 (by decide) (by decide) g13 (fun x14 ex14 => ?_)
      have h := h x14 ex14
      have hx14 := hx.upE g12 ex14
      refine V_iinc_7 (a7 := uu) dX4_countPassed_109 rfl ?_
      refine V_goto 85 dX4_countPassed_112 (by decide) ?_
      obtain ⟨g15, h⟩ := h
      exact ih _ _ _ _ _ _ _ hx14 r2 r3 r4 r5 r6 g15 h
set_option maxRecDepth 100000 in
theorem w_X4_countPassed_54 {Γ : GE} {q : Int → XM → Prop} : ∀ (n : Nat) (x : XM) (v2 : Int) (v3 : Int) (v4 : Int) (v5 : Int) , WX x → Rg v2 → Rg v3 → Rg v4 → Rg v5 → M_X4_countPassed_54 q n x v2 v3 v4 v5 → V Γ 3 NF NF D_X4_countPassed (QE Γ q) 54 [.ref (gB Γ + 65), uu, vI v2, vI v3, vI v4, vI v5, uu, uu] [] NF (mk Γ x) := by
  intro n
  induction n with
  | zero =>
    intro x v2 v3 v4 v5 hx r2 r3 r4 r5 h
    rw [M_X4_countPassed_54.eq_1] at h
    exact h.elim
  | succ n ih =>
    intro x v2 v3 v4 v5 hx r2 r3 r4 r5 h
    rw [M_X4_countPassed_54.eq_2] at h
    refine V_iload_5 dX4_countPassed_54 ?_
    refine V_bipush dX4_countPassed_56 (by decide) ?_
    refine V_icmp_ge 121 dX4_countPassed_58 (by decide) r5 (rgL rfl) ⟨fun c4 => ?_, fun c4 => ?_⟩
    · have h := h.1 c4
      refine V_iload_4 dX4_countPassed_121 ?_
      exact V_ireturn dX4_countPassed_123 rfl ⟨_, _, rfl, hx, rfl, r4, h⟩
    · have h := h.2 c4
      refine V_aload_0 dX4_countPassed_61 ?_
      refine V_iload_5 dX4_countPassed_62 ?_
      refine V_cVI1 (My := D_X4_passing) dX4_countPassed_64 ml_Fitting_42 ce_X4_passing ly_65 (by decide) cl_4 (by decide) (Nat.le_refl _) (Nat.le_refl _) (by decide) (sumL rfl) (w_X4_passing hx r5 h) (fun z5 hz5 h => ?_)
      refine V_istore_6 dX4_countPassed_67 rfl rfl ?_
      refine V_iload_6 dX4_countPassed_69 ?_
      refine V_iload_2 dX4_countPassed_71 ?_
      refine V_iload_3 dX4_countPassed_72 ?_
      refine V_cSI3 (My := D_X4_fits) dX4_countPassed_73 ml_Fitting_45 ce_X4_fits (Nat.le_refl _) (Nat.le_refl _) (by decide) (sumL rfl) (w_X4_fits hx hz5 r2 r3 h) (fun z6 hz6 h => ?_)
      refine V_if_eq 115 dX4_countPassed_76 (by decide) hz6 ⟨fun c7 => ?_, fun c7 => ?_⟩
      · have h := h.1 c7
        refine V_iinc_5 (a5 := uu) dX4_countPassed_115 rfl ?_
        refine V_goto 54 dX4_countPassed_118 (by decide) ?_
        obtain ⟨g8, h⟩ := h
        refine V_fg_6 ?_
        exact ih _ _ _ _ _ hx r2 r3 r4 g8 h
      · have h := h.2 c7
        refine V_iinc_4 (a4 := uu) dX4_countPassed_79 rfl ?_
        refine V_iconst dX4_countPassed_82 ?_
        refine V_istore_7 dX4_countPassed_83 rfl rfl ?_
        obtain ⟨g16, h⟩ := h
        obtain ⟨m9, h⟩ := h
        exact w_X4_countPassed_85 (ih) m9 _ _ _ _ _ _ _ hx r2 r3 g16 r5 hz5 (rgL rfl) h
set_option maxRecDepth 100000 in
theorem w_X4_countPassed_30 {Γ : GE} {q : Int → XM → Prop} : ∀ (n : Nat) (x : XM) (v2 : Int) (v3 : Int) (v4 : Int) (v5 : Int) , WX x → Rg v2 → Rg v3 → Rg v4 → Rg v5 → M_X4_countPassed_30 q n x v2 v3 v4 v5 → V Γ 3 NF NF D_X4_countPassed (QE Γ q) 30 [.ref (gB Γ + 65), uu, vI v2, vI v3, vI v4, vI v5, uu, uu] [] NF (mk Γ x) := by
  intro n
  induction n with
  | zero =>
    intro x v2 v3 v4 v5 hx r2 r3 r4 r5 h
    rw [M_X4_countPassed_30.eq_1] at h
    exact h.elim
  | succ n ih =>
    intro x v2 v3 v4 v5 hx r2 r3 r4 r5 h
    rw [M_X4_countPassed_30.eq_2] at h
    refine V_iload_5 dX4_countPassed_30 ?_
    refine V_bipush dX4_countPassed_32 (by decide) ?_
    refine V_icmp_ge 51 dX4_countPassed_34 (by decide) r5 (rgL rfl) ⟨fun c3 => ?_, fun c3 => ?_⟩
    · have h := h.1 c3
      refine V_iconst dX4_countPassed_51 ?_
      refine V_istore_5 dX4_countPassed_52 rfl rfl ?_
      obtain ⟨m9, h⟩ := h
      exact w_X4_countPassed_54 m9 _ _ _ _ _ hx r2 r3 r4 (rgL rfl) h
    · have h := h.2 c3
      refine V_aload_0 dX4_countPassed_37 ?_
      refine V_gR dX4_countPassed_38 fl_Fitting_9 ly_65 (by decide) wr_65_1 ?_
      refine V_iload_5 dX4_countPassed_41 ?_
      refine V_iconst dX4_countPassed_43 ?_
      obtain ⟨g17, h⟩ := h
      refine V_sIe dX4_countPassed_44 ly_66 (by decide) (by decide) g17 (fun x18 ex18 => ?_)
      have h := h x18 ex18
      have hx18 := hx.upE (rgL rfl) ex18
      refine V_iinc_5 (a5 := uu) dX4_countPassed_45 rfl ?_
      refine V_goto 30 dX4_countPassed_48 (by decide) ?_
      obtain ⟨g19, h⟩ := h
      exact ih _ _ _ _ _ hx18 r2 r3 r4 g19 h
set_option maxRecDepth 100000 in
theorem w_X4_countPassed {Γ : GE} {x : XM} (hx : WX x) {v1 : Int} {q : Int → XM → Prop} (r1 : Rg v1) (h : M_X4_countPassed x v1 q) : CV Γ 3 NF NF D_X4_countPassed [.ref (gB Γ + 65), vI v1] (mk Γ x) (QE Γ q) := by
  refine CV.of rfl (cat_all rfl) (Nat.le_of_ble_eq_true rfl) ?_
  show V Γ 3 NF NF D_X4_countPassed (QE Γ q) 0 [.ref (gB Γ + 65), vI v1, uu, uu, uu, uu, uu, uu] [] NF (mk Γ x)
  unfold M_X4_countPassed at h
  refine V_aload_0 dX4_countPassed_0 ?_
  refine V_gR dX4_countPassed_1 fl_Fitting_18 ly_65 (by decide) wr_65_0 ?_
  refine V_iload_1 dX4_countPassed_4 ?_
  refine V_cVI1 (My := D_X0_at) dX4_countPassed_5 ml_Fitting_36 ce_X0_at ly_3 (by decide) cl_0 (by decide) (Nat.le_refl _) (Nat.le_refl _) (by decide) (sumL rfl) (w_X0_at hx r1 h) (fun z1 hz1 h => ?_)
  refine V_istore_2 dX4_countPassed_8 rfl rfl ?_
  refine V_aload_0 dX4_countPassed_9 ?_
  refine V_gR dX4_countPassed_10 fl_Fitting_18 ly_65 (by decide) wr_65_0 ?_
  refine V_iconst dX4_countPassed_13 ?_
  refine V_bipush dX4_countPassed_14 (by decide) ?_
  refine V_cVI2 (My := D_X0_from) dX4_countPassed_16 ml_Fitting_39 ce_X0_from ly_3 (by decide) cl_0 (by decide) (Nat.le_refl _) (Nat.le_refl _) (by decide) (sumL rfl) (w_X0_from hx (rgL rfl) (rgL rfl) h) (fun z2 hz2 h => ?_)
  refine V_iload_2 dX4_countPassed_19 ?_
  refine V_iconst dX4_countPassed_20 ?_
  refine V_ixor dX4_countPassed_21 ?_
  refine V_iand dX4_countPassed_22 ?_
  refine V_istore_3 dX4_countPassed_23 rfl rfl ?_
  refine V_iconst dX4_countPassed_24 ?_
  refine V_istore_4 dX4_countPassed_25 rfl rfl ?_
  refine V_iconst dX4_countPassed_27 ?_
  refine V_istore_5 dX4_countPassed_28 rfl rfl ?_
  refine V_fg_1 ?_
  obtain ⟨m9, h⟩ := h
  exact w_X4_countPassed_30 m9 _ _ _ _ _ hx hz1 (Rg.of _) (rgL rfl) (rgL rfl) h
def M_X4_bestTeller_25 (q : Int → XM → Prop) : Nat → XM → Int → Int → Int → Int → Int → Prop
  | 0, _, _, _, _, _, _ => False
  | n + 1, x, v2, v3, v4, v5, v6 =>
  M_X0_count x 1  (fun z4 => ((z4 ≤ v6 → q v4 x) ∧ (¬ (z4 ≤ v6) → (0 ≤ v6 ∧ v6 < 12) ∧ (0 ≤ v6 ∧ v6 < 12) ∧ (Rg (v2 - (x 66 (v6.toNat)))) ∧ M_J9_max_7cf53 x (x 66 (v6.toNat)) (v2 - (x 66 (v6.toNat)))  (fun z9 => M_X10_has x v3 v6  (fun z10 => ((z10 = 0 → (Rg (v6 + 1)) ∧ (M_X4_bestTeller_25 q n) x v2 v3 v4 v5 (v6 + 1)) ∧ (¬ z10 = 0 → ((v5 ≤ z9 → (Rg (v6 + 1)) ∧ (M_X4_bestTeller_25 q n) x v2 v3 v4 v5 (v6 + 1)) ∧ (¬ (v5 ≤ z9) → (Rg (v6 + 1)) ∧ (M_X4_bestTeller_25 q n) x v2 v3 v6 z9 (v6 + 1))))))))))
def M_X4_bestTeller (x : XM) (v1 : Int) (q : Int → XM → Prop) : Prop :=
  M_X4_countPassed x v1  (fun z1 x2 => M_X0_at x2 6  (fun z3 => ∃ m : Nat, M_X4_bestTeller_25 q m x2 z1 z3 (-1) z1 0))
set_option maxRecDepth 100000 in
theorem w_X4_bestTeller_25 {Γ : GE} {q : Int → XM → Prop} : ∀ (n : Nat) (x : XM) (v2 : Int) (v3 : Int) (v4 : Int) (v5 : Int) (v6 : Int) , WX x → Rg v2 → Rg v3 → Rg v4 → Rg v5 → Rg v6 → M_X4_bestTeller_25 q n x v2 v3 v4 v5 v6 → V Γ 4 NF NF D_X4_bestTeller (QE Γ q) 25 [.ref (gB Γ + 65), uu, vI v2, vI v3, vI v4, vI v5, vI v6, uu] [] NF (mk Γ x) := by
  intro n
  induction n with
  | zero =>
    intro x v2 v3 v4 v5 v6 hx r2 r3 r4 r5 r6 h
    rw [M_X4_bestTeller_25.eq_1] at h
    exact h.elim
  | succ n ih =>
    intro x v2 v3 v4 v5 v6 hx r2 r3 r4 r5 r6 h
    rw [M_X4_bestTeller_25.eq_2] at h
    refine V_iload_6 dX4_bestTeller_25 ?_
    refine V_aload_0 dX4_bestTeller_27 ?_
    refine V_gR dX4_bestTeller_28 fl_Fitting_18 ly_65 (by decide) wr_65_0 ?_
    refine V_iconst dX4_bestTeller_31 ?_
    refine V_cVI1 (My := D_X0_count) dX4_bestTeller_32 ml_Fitting_22 ce_X0_count ly_3 (by decide) cl_0 (by decide) (Nat.le_refl _) (Nat.le_refl _) (by decide) (sumL rfl) (w_X0_count hx (rgL rfl) h) (fun z4 hz4 h => ?_)
    refine V_icmp_ge 89 dX4_bestTeller_35 (by decide) r6 hz4 ⟨fun c5 => ?_, fun c5 => ?_⟩
    · have h := h.1 c5
      refine V_iload_4 dX4_bestTeller_89 ?_
      exact V_ireturn dX4_bestTeller_91 rfl ⟨_, _, rfl, hx, rfl, r4, h⟩
    · have h := h.2 c5
      refine V_aload_0 dX4_bestTeller_38 ?_
      refine V_gR dX4_bestTeller_39 fl_Fitting_9 ly_65 (by decide) wr_65_1 ?_
      refine V_iload_6 dX4_bestTeller_42 ?_
      obtain ⟨g6, h⟩ := h
      refine V_aI dX4_bestTeller_44 ly_66 (by decide) (by decide) g6 ?_
      refine V_iload_2 dX4_bestTeller_45 ?_
      refine V_aload_0 dX4_bestTeller_46 ?_
      refine V_gR dX4_bestTeller_47 fl_Fitting_9 ly_65 (by decide) wr_65_1 ?_
      refine V_iload_6 dX4_bestTeller_50 ?_
      obtain ⟨g7, h⟩ := h
      refine V_aI dX4_bestTeller_52 ly_66 (by decide) (by decide) g7 ?_
      refine V_isub dX4_bestTeller_53 ?_
      obtain ⟨g8, h⟩ := h
      refine V_cSI2 (My := D_J9_max_7cf53) dX4_bestTeller_54 ml_Fitting_51 ce_J9_max_7cf53 (Nat.le_refl _) (Nat.le_refl _) (by decide) (sumL rfl) (w_J9_max_7cf53 hx (hx _ _) g8 h) (fun z9 hz9 h => ?_)
      refine V_istore_7 dX4_bestTeller_57 rfl rfl ?_
      refine V_iload_3 dX4_bestTeller_59 ?_
      refine V_iload_6 dX4_bestTeller_60 ?_
      refine V_cNI2 (My := D_X10_has) dX4_bestTeller_62 (by decide) ce_X10_has (Nat.le_refl _) (Nat.le_refl _) (by decide) (sumL rfl) (w_X10_has hx r3 r6 h) (fun z10 hz10 h => ?_)
      refine V_if_eq 83 dX4_bestTeller_65 (by decide) hz10 ⟨fun c11 => ?_, fun c11 => ?_⟩
      · have h := h.1 c11
        refine V_iinc_6 (a6 := uu) dX4_bestTeller_83 rfl ?_
        refine V_goto 25 dX4_bestTeller_86 (by decide) ?_
        obtain ⟨g12, h⟩ := h
        refine V_fg_7 ?_
        exact ih _ _ _ _ _ _ hx r2 r3 r4 r5 g12 h
      · have h := h.2 c11
        refine V_iload_7 dX4_bestTeller_68 ?_
        refine V_iload_5 dX4_bestTeller_70 ?_
        refine V_icmp_ge 83 dX4_bestTeller_72 (by decide) hz9 r5 ⟨fun c13 => ?_, fun c13 => ?_⟩
        · have h := h.1 c13
          refine V_iinc_6 (a6 := uu) dX4_bestTeller_83 rfl ?_
          refine V_goto 25 dX4_bestTeller_86 (by decide) ?_
          obtain ⟨g14, h⟩ := h
          refine V_fg_7 ?_
          exact ih _ _ _ _ _ _ hx r2 r3 r4 r5 g14 h
        · have h := h.2 c13
          refine V_iload_7 dX4_bestTeller_75 ?_
          refine V_istore_5 dX4_bestTeller_77 rfl rfl ?_
          refine V_iload_6 dX4_bestTeller_79 ?_
          refine V_istore_4 dX4_bestTeller_81 rfl rfl ?_
          refine V_iinc_6 (a6 := uu) dX4_bestTeller_83 rfl ?_
          refine V_goto 25 dX4_bestTeller_86 (by decide) ?_
          obtain ⟨g15, h⟩ := h
          refine V_fg_7 ?_
          exact ih _ _ _ _ _ _ hx r2 r3 r6 hz9 g15 h
set_option maxRecDepth 100000 in
theorem w_X4_bestTeller {Γ : GE} {x : XM} (hx : WX x) {v1 : Int} {q : Int → XM → Prop} (r1 : Rg v1) (h : M_X4_bestTeller x v1 q) : CV Γ 4 NF NF D_X4_bestTeller [.ref (gB Γ + 65), vI v1] (mk Γ x) (QE Γ q) := by
  refine CV.of rfl (cat_all rfl) (Nat.le_of_ble_eq_true rfl) ?_
  show V Γ 4 NF NF D_X4_bestTeller (QE Γ q) 0 [.ref (gB Γ + 65), vI v1, uu, uu, uu, uu, uu, uu] [] NF (mk Γ x)
  unfold M_X4_bestTeller at h
  refine V_aload_0 dX4_bestTeller_0 ?_
  refine V_iload_1 dX4_bestTeller_1 ?_
  refine V_cVE1 (My := D_X4_countPassed) dX4_bestTeller_2 ml_Fitting_48 ce_X4_countPassed ly_65 (by decide) cl_4 (by decide) (Nat.le_refl _) (Nat.le_refl _) (by decide) (sumL rfl) (w_X4_countPassed hx r1 h) (fun z1 x2 hx2 hz1 h => ?_)
  refine V_istore_2 dX4_bestTeller_5 rfl rfl ?_
  refine V_aload_0 dX4_bestTeller_6 ?_
  refine V_gR dX4_bestTeller_7 fl_Fitting_18 ly_65 (by decide) wr_65_0 ?_
  refine V_bipush dX4_bestTeller_10 (by decide) ?_
  refine V_cVI1 (My := D_X0_at) dX4_bestTeller_12 ml_Fitting_36 ce_X0_at ly_3 (by decide) cl_0 (by decide) (Nat.le_refl _) (Nat.le_refl _) (by decide) (sumL rfl) (w_X0_at hx2 (rgL rfl) h) (fun z3 hz3 h => ?_)
  refine V_istore_3 dX4_bestTeller_15 rfl rfl ?_
  refine V_iconst dX4_bestTeller_16 ?_
  refine V_istore_4 dX4_bestTeller_17 rfl rfl ?_
  refine V_iload_2 dX4_bestTeller_19 ?_
  refine V_istore_5 dX4_bestTeller_20 rfl rfl ?_
  refine V_iconst dX4_bestTeller_22 ?_
  refine V_istore_6 dX4_bestTeller_23 rfl rfl ?_
  refine V_fg_1 ?_
  obtain ⟨m9, h⟩ := h
  exact w_X4_bestTeller_25 m9 _ _ _ _ _ _ hx2 hz1 hz3 (rgL rfl) hz1 (rgL rfl) h
def M_X10_tells (x : XM) (v1 : Int) (q : Int → XM → Prop) : Prop :=
  M_X10_isHeap x v1  (fun z1 => ((¬ z1 = 0 → M_X0_at x v1  (fun z3 => ((¬ z3 = 0 → M_X4_bestTeller x v1  (fun z5 x6 => q z5 x6)) ∧ (z3 = 0 → q (-1000000003) x)))) ∧ (z1 = 0 → q (-1000000002) x)))
set_option maxRecDepth 100000 in
theorem w_X10_tells {Γ : GE} {x : XM} (hx : WX x) {v1 : Int} {q : Int → XM → Prop} (r1 : Rg v1) (h : M_X10_tells x v1 q) : CV Γ 5 NF NF D_X10_tells [.ref (gB Γ + 0), vI v1] (mk Γ x) (QE Γ q) := by
  refine CV.of rfl (cat_all rfl) (Nat.le_of_ble_eq_true rfl) ?_
  show V Γ 5 NF NF D_X10_tells (QE Γ q) 0 [.ref (gB Γ + 0), vI v1] [] NF (mk Γ x)
  unfold M_X10_tells at h
  refine V_iload_1 dX10_tells_0 ?_
  refine V_cSI1 (My := D_X10_isHeap) dX10_tells_1 ml_T_187 ce_X10_isHeap (Nat.le_refl _) (Nat.le_refl _) (by decide) (sumL rfl) (w_X10_isHeap hx r1 h) (fun z1 hz1 h => ?_)
  refine V_if_ne 10 dX10_tells_4 (by decide) hz1 ⟨fun c2 => ?_, fun c2 => ?_⟩
  · have h := h.1 c2
    refine V_aload_0 dX10_tells_10 ?_
    refine V_gR dX10_tells_11 fl_T_19 ly_0 (by decide) wr_0_1 ?_
    refine V_iload_1 dX10_tells_14 ?_
    refine V_cVI1 (My := D_X0_at) dX10_tells_15 ml_T_124 ce_X0_at ly_3 (by decide) cl_0 (by decide) (Nat.le_refl _) (Nat.le_refl _) (by decide) (sumL rfl) (w_X0_at hx r1 h) (fun z3 hz3 h => ?_)
    refine V_if_ne 26 dX10_tells_18 (by decide) hz3 ⟨fun c4 => ?_, fun c4 => ?_⟩
    · have h := h.1 c4
      refine V_aload_0 dX10_tells_26 ?_
      refine V_gR dX10_tells_27 fl_T_55 ly_0 (by decide) wr_0_6 ?_
      refine V_iload_1 dX10_tells_30 ?_
      refine V_cVE1 (My := D_X4_bestTeller) dX10_tells_31 ml_T_221 ce_X4_bestTeller ly_65 (by decide) cl_4 (by decide) (Nat.le_refl _) (Nat.le_refl _) (by decide) (sumL rfl) (w_X4_bestTeller hx r1 h) (fun z5 x6 hx6 hz5 h => ?_)
      exact V_ireturn dX10_tells_34 rfl ⟨_, _, rfl, hx6, rfl, hz5, h⟩
    · have h := h.2 c4
      refine V_ldc dX10_tells_21 kc_T_190 ?_
      refine V_goto 34 dX10_tells_23 (by decide) ?_
      exact V_ireturn dX10_tells_34 rfl ⟨_, _, rfl, hx, rfl, (rgL rfl), h⟩
  · have h := h.2 c2
    refine V_ldc dX10_tells_7 kc_T_78 ?_
    exact V_ireturn dX10_tells_9 rfl ⟨_, _, rfl, hx, rfl, (rgL rfl), h⟩
def M_X11_tells_121 (q : Int → XM → Prop) (K38 : XM → Int → Int → Int → Prop) (x : XM) (v2 : Int) (v3 : Int) (v4 : Int) (s0 : Int) : Prop :=
  (0 ≤ v4 ∧ v4 < 31) ∧ ((¬ (x 93 (v4.toNat)) = 0 → (Rg (v4 + 1)) ∧ K38 x v2 v3 (v4 + 1)) ∧ ((x 93 (v4.toNat)) = 0 → ((v3 ≤ s0 → (Rg (v4 + 1)) ∧ K38 x v2 v3 (v4 + 1)) ∧ (¬ (v3 ≤ s0) → (Rg (v4 + 1)) ∧ K38 x v4 s0 (v4 + 1)))))
def M_X11_tells_53 (q : Int → XM → Prop) (K38 : XM → Int → Int → Int → Prop) : Nat → XM → Int → Int → Int → Int → Int → Prop
  | 0, _, _, _, _, _, _ => False
  | n + 1, x, v2, v3, v4, v5, v6 =>
  ((120 ≤ v6 → (Rg ((x 83 33) - v5)) ∧ ((v5 ≤ ((x 83 33) - v5) → (Rg ((x 83 33) - v5)) ∧ M_X11_tells_121 q K38 x v2 v3 v4 ((x 83 33) - v5)) ∧ (¬ (v5 ≤ ((x 83 33) - v5)) → M_X11_tells_121 q K38 x v2 v3 v4 v5))) ∧ (¬ (120 ≤ v6) → (0 ≤ v6 ∧ v6 < 120) ∧ (((x 98 (v6.toNat)) = 0 → (Rg (v5 + 0)) ∧ (Rg (v6 + 1)) ∧ (M_X11_tells_53 q K38 n) x v2 v3 v4 (v5 + 0) (v6 + 1)) ∧ (¬ (x 98 (v6.toNat)) = 0 → M_X11_passes x v6 v4  (fun z22 => ((z22 = 0 → (Rg (v5 + 0)) ∧ (Rg (v6 + 1)) ∧ (M_X11_tells_53 q K38 n) x v2 v3 v4 (v5 + 0) (v6 + 1)) ∧ (¬ z22 = 0 → (Rg (v5 + 1)) ∧ (Rg (v6 + 1)) ∧ (M_X11_tells_53 q K38 n) x v2 v3 v4 (v5 + 1) (v6 + 1))))))))
def M_X11_tells_38 (q : Int → XM → Prop) : Nat → XM → Int → Int → Int → Prop
  | 0, _, _, _, _ => False
  | n + 1, x, v2, v3, v4 =>
  (((x 83 3) ≤ v4 → q v2 x) ∧ (¬ ((x 83 3) ≤ v4) → ∃ m : Nat, M_X11_tells_53 q (M_X11_tells_38 q n) m x v2 v3 v4 0 0))
def M_X11_tells (x : XM) (v1 : Int) (q : Int → XM → Prop) : Prop :=
  M_X11_isHeap x v1  (fun z1 => ((¬ z1 = 0 → (Rg (1 + v1)) ∧ M_X11_setIn x (1 + v1)  (fun z4 => ((¬ z4 = 0 → M_X11_measure x v1  (fun x6 => ∃ m : Nat, M_X11_tells_38 q m x6 (-1) (x6 83 33) 0)) ∧ (z4 = 0 → q (-1000000003) x)))) ∧ (z1 = 0 → q (-1000000002) x)))
set_option maxRecDepth 100000 in
theorem w_X11_tells_121 {Γ : GE} {q : Int → XM → Prop} {K38 : XM → Int → Int → Int → Prop} (hK38 : ∀ (x : XM) (v2 : Int) (v3 : Int) (v4 : Int) , WX x → Rg v2 → Rg v3 → Rg v4 → K38 x v2 v3 v4 → V Γ 3 NF NF D_X11_tells (QE Γ q) 38 [.ref (gB Γ + 83), uu, vI v2, vI v3, vI v4, uu, uu] [] NF (mk Γ x)) : ∀ (x : XM) (v2 : Int) (v3 : Int) (v4 : Int) (s0 : Int) , WX x → Rg v2 → Rg v3 → Rg v4 → Rg s0 → M_X11_tells_121 q K38 x v2 v3 v4 s0 → V Γ 3 NF NF D_X11_tells (QE Γ q) 121 [.ref (gB Γ + 83), uu, vI v2, vI v3, vI v4, uu, uu] [vI s0] NF (mk Γ x) := by
  intro x v2 v3 v4 s0 hx r2 r3 r4 rs0 h
  unfold M_X11_tells_121 at h
  refine V_istore_6 dX11_tells_121 rfl rfl ?_
  refine V_aload_0 dX11_tells_123 ?_
  refine V_gR dX11_tells_124 fl_R_38 ly_83 (by decide) wr_83_25 ?_
  refine V_iload_4 dX11_tells_127 ?_
  obtain ⟨g11, h⟩ := h
  refine V_aI dX11_tells_129 ly_93 (by decide) (by decide) g11 ?_
  refine V_if_ne 145 dX11_tells_130 (by decide) (hx _ _) ⟨fun c12 => ?_, fun c12 => ?_⟩
  · have h := h.1 c12
    refine V_iinc_4 (a4 := uu) dX11_tells_145 rfl ?_
    refine V_goto 38 dX11_tells_148 (by decide) ?_
    obtain ⟨g13, h⟩ := h
    refine V_fg_6 ?_
    exact hK38 _ _ _ _ hx r2 r3 g13 h
  · have h := h.2 c12
    refine V_iload_6 dX11_tells_133 ?_
    refine V_iload_3 dX11_tells_135 ?_
    refine V_icmp_ge 145 dX11_tells_136 (by decide) rs0 r3 ⟨fun c14 => ?_, fun c14 => ?_⟩
    · have h := h.1 c14
      refine V_iinc_4 (a4 := uu) dX11_tells_145 rfl ?_
      refine V_goto 38 dX11_tells_148 (by decide) ?_
      obtain ⟨g15, h⟩ := h
      refine V_fg_6 ?_
      exact hK38 _ _ _ _ hx r2 r3 g15 h
    · have h := h.2 c14
      refine V_iload_4 dX11_tells_139 ?_
      refine V_istore_2 dX11_tells_141 rfl rfl ?_
      refine V_iload_6 dX11_tells_142 ?_
      refine V_istore_3 dX11_tells_144 rfl rfl ?_
      refine V_iinc_4 (a4 := uu) dX11_tells_145 rfl ?_
      refine V_goto 38 dX11_tells_148 (by decide) ?_
      obtain ⟨g16, h⟩ := h
      refine V_fg_6 ?_
      exact hK38 _ _ _ _ hx r4 rs0 g16 h
set_option maxRecDepth 100000 in
theorem w_X11_tells_53 {Γ : GE} {q : Int → XM → Prop} {K38 : XM → Int → Int → Int → Prop} (hK38 : ∀ (x : XM) (v2 : Int) (v3 : Int) (v4 : Int) , WX x → Rg v2 → Rg v3 → Rg v4 → K38 x v2 v3 v4 → V Γ 3 NF NF D_X11_tells (QE Γ q) 38 [.ref (gB Γ + 83), uu, vI v2, vI v3, vI v4, uu, uu] [] NF (mk Γ x)) : ∀ (n : Nat) (x : XM) (v2 : Int) (v3 : Int) (v4 : Int) (v5 : Int) (v6 : Int) , WX x → Rg v2 → Rg v3 → Rg v4 → Rg v5 → Rg v6 → M_X11_tells_53 q K38 n x v2 v3 v4 v5 v6 → V Γ 3 NF NF D_X11_tells (QE Γ q) 53 [.ref (gB Γ + 83), uu, vI v2, vI v3, vI v4, vI v5, vI v6] [] NF (mk Γ x) := by
  intro n
  induction n with
  | zero =>
    intro x v2 v3 v4 v5 v6 hx r2 r3 r4 r5 r6 h
    rw [M_X11_tells_53.eq_1] at h
    exact h.elim
  | succ n ih =>
    intro x v2 v3 v4 v5 v6 hx r2 r3 r4 r5 r6 h
    rw [M_X11_tells_53.eq_2] at h
    refine V_iload_6 dX11_tells_53 ?_
    refine V_bipush dX11_tells_55 (by decide) ?_
    refine V_icmp_ge 97 dX11_tells_57 (by decide) r6 (rgL rfl) ⟨fun c8 => ?_, fun c8 => ?_⟩
    · have h := h.1 c8
      refine V_iload_5 dX11_tells_97 ?_
      refine V_aload_0 dX11_tells_99 ?_
      refine V_gI dX11_tells_100 fl_R_249 ly_83 (by decide) wn_83_33 ?_
      refine V_iload_5 dX11_tells_103 ?_
      refine V_isub dX11_tells_105 ?_
      obtain ⟨g9, h⟩ := h
      refine V_icmp_le 114 dX11_tells_106 (by decide) r5 g9 ⟨fun c10 => ?_, fun c10 => ?_⟩
      · have h := h.1 c10
        refine V_aload_0 dX11_tells_114 ?_
        refine V_gI dX11_tells_115 fl_R_249 ly_83 (by decide) wn_83_33 ?_
        refine V_iload_5 dX11_tells_118 ?_
        refine V_isub dX11_tells_120 ?_
        obtain ⟨g17, h⟩ := h
        refine V_fg_5 ?_
        refine V_fg_6 ?_
        exact w_X11_tells_121 (hK38) _ _ _ _ _ hx r2 r3 r4 g17 h
      · have h := h.2 c10
        refine V_iload_5 dX11_tells_109 ?_
        refine V_goto 121 dX11_tells_111 (by decide) ?_
        refine V_fg_5 ?_
        refine V_fg_6 ?_
        exact w_X11_tells_121 (hK38) _ _ _ _ _ hx r2 r3 r4 r5 h
    · have h := h.2 c8
      refine V_iload_5 dX11_tells_60 ?_
      refine V_aload_0 dX11_tells_62 ?_
      refine V_gR dX11_tells_63 fl_R_54 ly_83 (by decide) wr_83_32 ?_
      refine V_iload_6 dX11_tells_66 ?_
      obtain ⟨g18, h⟩ := h
      refine V_aZ dX11_tells_68 ly_98 (by decide) (by decide) g18 ?_
      refine V_if_eq 87 dX11_tells_69 (by decide) (hx _ _) ⟨fun c19 => ?_, fun c19 => ?_⟩
      · have h := h.1 c19
        refine V_iconst dX11_tells_87 ?_
        refine V_iadd dX11_tells_88 ?_
        refine V_istore_5 dX11_tells_89 rfl rfl ?_
        refine V_iinc_6 (a6 := uu) dX11_tells_91 rfl ?_
        refine V_goto 53 dX11_tells_94 (by decide) ?_
        obtain ⟨g20, h⟩ := h
        obtain ⟨g21, h⟩ := h
        exact ih _ _ _ _ _ _ hx r2 r3 r4 g20 g21 h
      · have h := h.2 c19
        refine V_aload_0 dX11_tells_72 ?_
        refine V_iload_6 dX11_tells_73 ?_
        refine V_iload_4 dX11_tells_75 ?_
        refine V_cVI2 (My := D_X11_passes) dX11_tells_77 ml_R_252 ce_X11_passes ly_83 (by decide) cl_11 (by decide) (Nat.le_refl _) (Nat.le_refl _) (by decide) (sumL rfl) (w_X11_passes hx r6 r4 h) (fun z22 hz22 h => ?_)
        refine V_if_eq 87 dX11_tells_80 (by decide) hz22 ⟨fun c23 => ?_, fun c23 => ?_⟩
        · have h := h.1 c23
          refine V_iconst dX11_tells_87 ?_
          refine V_iadd dX11_tells_88 ?_
          refine V_istore_5 dX11_tells_89 rfl rfl ?_
          refine V_iinc_6 (a6 := uu) dX11_tells_91 rfl ?_
          refine V_goto 53 dX11_tells_94 (by decide) ?_
          obtain ⟨g24, h⟩ := h
          obtain ⟨g25, h⟩ := h
          exact ih _ _ _ _ _ _ hx r2 r3 r4 g24 g25 h
        · have h := h.2 c23
          refine V_iconst dX11_tells_83 ?_
          refine V_goto 88 dX11_tells_84 (by decide) ?_
          refine V_iadd dX11_tells_88 ?_
          refine V_istore_5 dX11_tells_89 rfl rfl ?_
          refine V_iinc_6 (a6 := uu) dX11_tells_91 rfl ?_
          refine V_goto 53 dX11_tells_94 (by decide) ?_
          obtain ⟨g26, h⟩ := h
          obtain ⟨g27, h⟩ := h
          exact ih _ _ _ _ _ _ hx r2 r3 r4 g26 g27 h
set_option maxRecDepth 100000 in
theorem w_X11_tells_38 {Γ : GE} {q : Int → XM → Prop} : ∀ (n : Nat) (x : XM) (v2 : Int) (v3 : Int) (v4 : Int) , WX x → Rg v2 → Rg v3 → Rg v4 → M_X11_tells_38 q n x v2 v3 v4 → V Γ 3 NF NF D_X11_tells (QE Γ q) 38 [.ref (gB Γ + 83), uu, vI v2, vI v3, vI v4, uu, uu] [] NF (mk Γ x) := by
  intro n
  induction n with
  | zero =>
    intro x v2 v3 v4 hx r2 r3 r4 h
    rw [M_X11_tells_38.eq_1] at h
    exact h.elim
  | succ n ih =>
    intro x v2 v3 v4 hx r2 r3 r4 h
    rw [M_X11_tells_38.eq_2] at h
    refine V_iload_4 dX11_tells_38 ?_
    refine V_aload_0 dX11_tells_40 ?_
    refine V_gI dX11_tells_41 fl_R_145 ly_83 (by decide) wn_83_3 ?_
    refine V_icmp_ge 151 dX11_tells_44 (by decide) r4 (hx _ _) ⟨fun c7 => ?_, fun c7 => ?_⟩
    · have h := h.1 c7
      refine V_iload_2 dX11_tells_151 ?_
      exact V_ireturn dX11_tells_152 rfl ⟨_, _, rfl, hx, rfl, r2, h⟩
    · have h := h.2 c7
      refine V_iconst dX11_tells_47 ?_
      refine V_istore_5 dX11_tells_48 rfl rfl ?_
      refine V_iconst dX11_tells_50 ?_
      refine V_istore_6 dX11_tells_51 rfl rfl ?_
      obtain ⟨m9, h⟩ := h
      exact w_X11_tells_53 (ih) m9 _ _ _ _ _ _ hx r2 r3 r4 (rgL rfl) (rgL rfl) h
set_option maxRecDepth 100000 in
theorem w_X11_tells {Γ : GE} {x : XM} (hx : WX x) {v1 : Int} {q : Int → XM → Prop} (r1 : Rg v1) (h : M_X11_tells x v1 q) : CV Γ 3 NF NF D_X11_tells [.ref (gB Γ + 83), vI v1] (mk Γ x) (QE Γ q) := by
  refine CV.of rfl (cat_all rfl) (Nat.le_of_ble_eq_true rfl) ?_
  show V Γ 3 NF NF D_X11_tells (QE Γ q) 0 [.ref (gB Γ + 83), vI v1, uu, uu, uu, uu, uu] [] NF (mk Γ x)
  unfold M_X11_tells at h
  refine V_iload_1 dX11_tells_0 ?_
  refine V_cSI1 (My := D_X11_isHeap) dX11_tells_1 ml_R_221 ce_X11_isHeap (Nat.le_refl _) (Nat.le_refl _) (by decide) (sumL rfl) (w_X11_isHeap hx r1 h) (fun z1 hz1 h => ?_)
  refine V_if_ne 10 dX11_tells_4 (by decide) hz1 ⟨fun c2 => ?_, fun c2 => ?_⟩
  · have h := h.1 c2
    refine V_aload_0 dX11_tells_10 ?_
    refine V_iconst dX11_tells_11 ?_
    refine V_iload_1 dX11_tells_12 ?_
    refine V_iadd dX11_tells_13 ?_
    obtain ⟨g3, h⟩ := h
    refine V_cVI1 (My := D_X11_setIn) dX11_tells_14 ml_R_183 ce_X11_setIn ly_83 (by decide) cl_11 (by decide) (Nat.le_refl _) (Nat.le_refl _) (by decide) (sumL rfl) (w_X11_setIn hx g3 h) (fun z4 hz4 h => ?_)
    refine V_if_ne 23 dX11_tells_17 (by decide) hz4 ⟨fun c5 => ?_, fun c5 => ?_⟩
    · have h := h.1 c5
      refine V_aload_0 dX11_tells_23 ?_
      refine V_iload_1 dX11_tells_24 ?_
      refine V_cVU1 (My := D_X11_measure) dX11_tells_25 ml_R_255 ce_X11_measure ly_83 (by decide) cl_11 (by decide) (Nat.le_refl _) (Nat.le_refl _) (by decide) (sumL rfl) (w_X11_measure hx r1 h) (fun x6 hx6 h => ?_)
      refine V_iconst dX11_tells_28 ?_
      refine V_istore_2 dX11_tells_29 rfl rfl ?_
      refine V_aload_0 dX11_tells_30 ?_
      refine V_gI dX11_tells_31 fl_R_249 ly_83 (by decide) wn_83_33 ?_
      refine V_istore_3 dX11_tells_34 rfl rfl ?_
      refine V_iconst dX11_tells_35 ?_
      refine V_istore_4 dX11_tells_36 rfl rfl ?_
      refine V_fg_1 ?_
      obtain ⟨m9, h⟩ := h
      exact w_X11_tells_38 m9 _ _ _ _ hx6 (rgL rfl) (hx6 _ _) (rgL rfl) h
    · have h := h.2 c5
      refine V_ldc dX11_tells_20 kc_R_224 ?_
      exact V_ireturn dX11_tells_22 rfl ⟨_, _, rfl, hx, rfl, (rgL rfl), h⟩
  · have h := h.2 c2
    refine V_ldc dX11_tells_7 kc_R_77 ?_
    exact V_ireturn dX11_tells_9 rfl ⟨_, _, rfl, hx, rfl, (rgL rfl), h⟩
def M_X4_isMetAnyway_2 (q : Int → Prop) (x : XM) : Nat → Int → Int → Prop
  | 0, _, _ => False
  | n + 1, v1, v2 =>
  (((x 65 3) ≤ v2 → q 0) ∧ (¬ ((x 65 3) ≤ v2) → (0 ≤ v2 ∧ v2 < 120) ∧ ((¬ (jand (x 67 (v2.toNat)) (jxor v1 (-1))) = 0 → (Rg (v2 + 1)) ∧ (M_X4_isMetAnyway_2 q x n) v1 (v2 + 1)) ∧ ((jand (x 67 (v2.toNat)) (jxor v1 (-1))) = 0 → q 1))))
def M_X4_isMetAnyway (x : XM) (v1 : Int) (q : Int → Prop) : Prop :=
  ∃ m : Nat, M_X4_isMetAnyway_2 q x m v1 0
set_option maxRecDepth 100000 in
theorem w_X4_isMetAnyway_2 {Γ : GE} {q : Int → Prop} {x : XM} (hx : WX x) : ∀ (n : Nat) (v1 : Int) (v2 : Int) , Rg v1 → Rg v2 → M_X4_isMetAnyway_2 q x n v1 v2 → V Γ 0 NF NF D_X4_isMetAnyway (QI Γ x q) 2 [.ref (gB Γ + 65), vI v1, vI v2] [] NF (mk Γ x) := by
  intro n
  induction n with
  | zero =>
    intro v1 v2 r1 r2 h
    rw [M_X4_isMetAnyway_2.eq_1] at h
    exact h.elim
  | succ n ih =>
    intro v1 v2 r1 r2 h
    rw [M_X4_isMetAnyway_2.eq_2] at h
    refine V_iload_2 dX4_isMetAnyway_2 ?_
    refine V_aload_0 dX4_isMetAnyway_3 ?_
    refine V_gI dX4_isMetAnyway_4 fl_Fitting_73 ly_65 (by decide) wn_65_3 ?_
    refine V_icmp_ge 31 dX4_isMetAnyway_7 (by decide) r2 (hx _ _) ⟨fun c1 => ?_, fun c1 => ?_⟩
    · have h := h.1 c1
      refine V_iconst dX4_isMetAnyway_31 ?_
      exact V_zreturn dX4_isMetAnyway_32 rfl (Or.inl rfl) ⟨rfl, _, rfl, (rgL rfl), h⟩
    · have h := h.2 c1
      refine V_aload_0 dX4_isMetAnyway_10 ?_
      refine V_gR dX4_isMetAnyway_11 fl_Fitting_15 ly_65 (by decide) wr_65_2 ?_
      refine V_iload_2 dX4_isMetAnyway_14 ?_
      obtain ⟨g2, h⟩ := h
      refine V_aI dX4_isMetAnyway_15 ly_67 (by decide) (by decide) g2 ?_
      refine V_iload_1 dX4_isMetAnyway_16 ?_
      refine V_iconst dX4_isMetAnyway_17 ?_
      refine V_ixor dX4_isMetAnyway_18 ?_
      refine V_iand dX4_isMetAnyway_19 ?_
      refine V_if_ne 25 dX4_isMetAnyway_20 (by decide) (Rg.of _) ⟨fun c3 => ?_, fun c3 => ?_⟩
      · have h := h.1 c3
        refine V_iinc_2 (a2 := uu) dX4_isMetAnyway_25 rfl ?_
        refine V_goto 2 dX4_isMetAnyway_28 (by decide) ?_
        obtain ⟨g4, h⟩ := h
        exact ih _ _ r1 g4 h
      · have h := h.2 c3
        refine V_iconst dX4_isMetAnyway_23 ?_
        exact V_zreturn dX4_isMetAnyway_24 rfl (Or.inr rfl) ⟨rfl, _, rfl, (rgL rfl), h⟩
set_option maxRecDepth 100000 in
theorem w_X4_isMetAnyway {Γ : GE} {x : XM} (hx : WX x) {v1 : Int} {q : Int → Prop} (r1 : Rg v1) (h : M_X4_isMetAnyway x v1 q) : CV Γ 0 NF NF D_X4_isMetAnyway [.ref (gB Γ + 65), vI v1] (mk Γ x) (QI Γ x q) := by
  refine CV.of rfl (cat_all rfl) (Nat.le_of_ble_eq_true rfl) ?_
  show V Γ 0 NF NF D_X4_isMetAnyway (QI Γ x q) 0 [.ref (gB Γ + 65), vI v1, uu] [] NF (mk Γ x)
  unfold M_X4_isMetAnyway at h
  refine V_iconst dX4_isMetAnyway_0 ?_
  refine V_istore_2 dX4_isMetAnyway_1 rfl rfl ?_
  obtain ⟨m9, h⟩ := h
  exact w_X4_isMetAnyway_2 hx m9 _ _ r1 (rgL rfl) h
def M_X4_gatherPartings_13 (q : XM → Prop) : Nat → XM → Int → Int → Prop
  | 0, _, _, _ => False
  | n + 1, x, v2, v3 =>
  ((120 ≤ v3 → q x) ∧ (¬ (120 ≤ v3) → M_X4_passing x v3  (fun z4 => (((jxor v2 z4) = 0 → (Rg (v3 + 1)) ∧ (M_X4_gatherPartings_13 q n) x v2 (v3 + 1)) ∧ (¬ (jxor v2 z4) = 0 → M_X4_isMetAnyway x (jxor v2 z4)  (fun z7 => ((¬ z7 = 0 → (Rg (v3 + 1)) ∧ (M_X4_gatherPartings_13 q n) x v2 (v3 + 1)) ∧ (z7 = 0 → (0 ≤ (x 65 3) ∧ (x 65 3) < 120) ∧ (∀ x11 : XM, x11 = uX x 67 (((x 65 3)).toNat) (jxor v2 z4) → (Rg ((x11 65 3) + 1)) ∧ (∀ x13 : XM, x13 = uX x11 65 3 ((x11 65 3) + 1) → (Rg (v3 + 1)) ∧ (M_X4_gatherPartings_13 q n) x13 v2 (v3 + 1)))))))))))
def M_X4_gatherPartings (x : XM) (v1 : Int) (q : XM → Prop) : Prop :=
  M_X4_passing x v1  (fun z1 => ∀ x2 : XM, x2 = uX x 65 3 0 → (∃ m : Nat, M_X4_gatherPartings_13 q m x2 z1 0))
set_option maxRecDepth 100000 in
theorem w_X4_gatherPartings_13 {Γ : GE} {q : XM → Prop} : ∀ (n : Nat) (x : XM) (v2 : Int) (v3 : Int) , WX x → Rg v2 → Rg v3 → M_X4_gatherPartings_13 q n x v2 v3 → V Γ 3 NF NF D_X4_gatherPartings (QU Γ q) 13 [.ref (gB Γ + 65), uu, vI v2, vI v3, uu] [] NF (mk Γ x) := by
  intro n
  induction n with
  | zero =>
    intro x v2 v3 hx r2 r3 h
    rw [M_X4_gatherPartings_13.eq_1] at h
    exact h.elim
  | succ n ih =>
    intro x v2 v3 hx r2 r3 h
    rw [M_X4_gatherPartings_13.eq_2] at h
    refine V_iload_3 dX4_gatherPartings_13 ?_
    refine V_bipush dX4_gatherPartings_14 (by decide) ?_
    refine V_icmp_ge 69 dX4_gatherPartings_16 (by decide) r3 (rgL rfl) ⟨fun c3 => ?_, fun c3 => ?_⟩
    · have h := h.1 c3
      exact V_vreturn dX4_gatherPartings_69 rfl ⟨_, rfl, hx, rfl, h⟩
    · have h := h.2 c3
      refine V_iload_2 dX4_gatherPartings_19 ?_
      refine V_aload_0 dX4_gatherPartings_20 ?_
      refine V_iload_3 dX4_gatherPartings_21 ?_
      refine V_cVI1 (My := D_X4_passing) dX4_gatherPartings_22 ml_Fitting_42 ce_X4_passing ly_65 (by decide) cl_4 (by decide) (Nat.le_refl _) (Nat.le_refl _) (by decide) (sumL rfl) (w_X4_passing hx r3 h) (fun z4 hz4 h => ?_)
      refine V_ixor dX4_gatherPartings_25 ?_
      refine V_istore_4 dX4_gatherPartings_26 rfl rfl ?_
      refine V_iload_4 dX4_gatherPartings_28 ?_
      refine V_if_eq 63 dX4_gatherPartings_30 (by decide) (Rg.of _) ⟨fun c5 => ?_, fun c5 => ?_⟩
      · have h := h.1 c5
        refine V_iinc_3 (a3 := uu) dX4_gatherPartings_63 rfl ?_
        refine V_goto 13 dX4_gatherPartings_66 (by decide) ?_
        obtain ⟨g6, h⟩ := h
        refine V_fg_4 ?_
        exact ih _ _ _ hx r2 g6 h
      · have h := h.2 c5
        refine V_aload_0 dX4_gatherPartings_33 ?_
        refine V_iload_4 dX4_gatherPartings_34 ?_
        refine V_cVI1 (My := D_X4_isMetAnyway) dX4_gatherPartings_36 ml_Fitting_77 ce_X4_isMetAnyway ly_65 (by decide) cl_4 (by decide) (Nat.le_refl _) (Nat.le_refl _) (by decide) (sumL rfl) (w_X4_isMetAnyway hx (Rg.of _) h) (fun z7 hz7 h => ?_)
        refine V_if_ne 63 dX4_gatherPartings_39 (by decide) hz7 ⟨fun c8 => ?_, fun c8 => ?_⟩
        · have h := h.1 c8
          refine V_iinc_3 (a3 := uu) dX4_gatherPartings_63 rfl ?_
          refine V_goto 13 dX4_gatherPartings_66 (by decide) ?_
          obtain ⟨g9, h⟩ := h
          refine V_fg_4 ?_
          exact ih _ _ _ hx r2 g9 h
        · have h := h.2 c8
          refine V_aload_0 dX4_gatherPartings_42 ?_
          refine V_gR dX4_gatherPartings_43 fl_Fitting_15 ly_65 (by decide) wr_65_2 ?_
          refine V_aload_0 dX4_gatherPartings_46 ?_
          refine V_gI dX4_gatherPartings_47 fl_Fitting_73 ly_65 (by decide) wn_65_3 ?_
          refine V_iload_4 dX4_gatherPartings_50 ?_
          obtain ⟨g10, h⟩ := h
          refine V_sIe dX4_gatherPartings_52 ly_67 (by decide) (by decide) g10 (fun x11 ex11 => ?_)
          have h := h x11 ex11
          have hx11 := hx.upE (Rg.of _) ex11
          refine V_aload_0 dX4_gatherPartings_53 ?_
          refine V_dup dX4_gatherPartings_54 rfl ?_
          refine V_gI dX4_gatherPartings_55 fl_Fitting_73 ly_65 (by decide) wn_65_3 ?_
          refine V_iconst dX4_gatherPartings_58 ?_
          refine V_iadd dX4_gatherPartings_59 ?_
          obtain ⟨g12, h⟩ := h
          refine V_pIe dX4_gatherPartings_60 fl_Fitting_73 ly_65 (by decide) wn_65_3 (fun x13 ex13 => ?_)
          have h := h x13 ex13
          have hx13 := hx11.upE g12 ex13
          refine V_iinc_3 (a3 := uu) dX4_gatherPartings_63 rfl ?_
          refine V_goto 13 dX4_gatherPartings_66 (by decide) ?_
          obtain ⟨g14, h⟩ := h
          refine V_fg_4 ?_
          exact ih _ _ _ hx13 r2 g14 h
set_option maxRecDepth 100000 in
theorem w_X4_gatherPartings {Γ : GE} {x : XM} (hx : WX x) {v1 : Int} {q : XM → Prop} (r1 : Rg v1) (h : M_X4_gatherPartings x v1 q) : CV Γ 3 NF NF D_X4_gatherPartings [.ref (gB Γ + 65), vI v1] (mk Γ x) (QU Γ q) := by
  refine CV.of rfl (cat_all rfl) (Nat.le_of_ble_eq_true rfl) ?_
  show V Γ 3 NF NF D_X4_gatherPartings (QU Γ q) 0 [.ref (gB Γ + 65), vI v1, uu, uu, uu] [] NF (mk Γ x)
  unfold M_X4_gatherPartings at h
  refine V_aload_0 dX4_gatherPartings_0 ?_
  refine V_iload_1 dX4_gatherPartings_1 ?_
  refine V_cVI1 (My := D_X4_passing) dX4_gatherPartings_2 ml_Fitting_42 ce_X4_passing ly_65 (by decide) cl_4 (by decide) (Nat.le_refl _) (Nat.le_refl _) (by decide) (sumL rfl) (w_X4_passing hx r1 h) (fun z1 hz1 h => ?_)
  refine V_istore_2 dX4_gatherPartings_5 rfl rfl ?_
  refine V_aload_0 dX4_gatherPartings_6 ?_
  refine V_iconst dX4_gatherPartings_7 ?_
  refine V_pIe dX4_gatherPartings_8 fl_Fitting_73 ly_65 (by decide) wn_65_3 (fun x2 ex2 => ?_)
  have h := h x2 ex2
  have hx2 := hx.upE (rgL rfl) ex2
  refine V_iconst dX4_gatherPartings_11 ?_
  refine V_istore_3 dX4_gatherPartings_12 rfl rfl ?_
  refine V_fg_1 ?_
  obtain ⟨m9, h⟩ := h
  exact w_X4_gatherPartings_13 m9 _ _ _ hx2 hz1 (rgL rfl) h
def M_X4_meetsAllPartings_2 (q : Int → Prop) (x : XM) : Nat → Int → Int → Prop
  | 0, _, _ => False
  | n + 1, v1, v2 =>
  (((x 65 3) ≤ v2 → q 1) ∧ (¬ ((x 65 3) ≤ v2) → (0 ≤ v2 ∧ v2 < 120) ∧ ((¬ (jand (x 67 (v2.toNat)) v1) = 0 → (Rg (v2 + 1)) ∧ (M_X4_meetsAllPartings_2 q x n) v1 (v2 + 1)) ∧ ((jand (x 67 (v2.toNat)) v1) = 0 → q 0))))
def M_X4_meetsAllPartings (x : XM) (v1 : Int) (q : Int → Prop) : Prop :=
  ∃ m : Nat, M_X4_meetsAllPartings_2 q x m v1 0
set_option maxRecDepth 100000 in
theorem w_X4_meetsAllPartings_2 {Γ : GE} {q : Int → Prop} {x : XM} (hx : WX x) : ∀ (n : Nat) (v1 : Int) (v2 : Int) , Rg v1 → Rg v2 → M_X4_meetsAllPartings_2 q x n v1 v2 → V Γ 0 NF NF D_X4_meetsAllPartings (QI Γ x q) 2 [.ref (gB Γ + 65), vI v1, vI v2] [] NF (mk Γ x) := by
  intro n
  induction n with
  | zero =>
    intro v1 v2 r1 r2 h
    rw [M_X4_meetsAllPartings_2.eq_1] at h
    exact h.elim
  | succ n ih =>
    intro v1 v2 r1 r2 h
    rw [M_X4_meetsAllPartings_2.eq_2] at h
    refine V_iload_2 dX4_meetsAllPartings_2 ?_
    refine V_aload_0 dX4_meetsAllPartings_3 ?_
    refine V_gI dX4_meetsAllPartings_4 fl_Fitting_73 ly_65 (by decide) wn_65_3 ?_
    refine V_icmp_ge 29 dX4_meetsAllPartings_7 (by decide) r2 (hx _ _) ⟨fun c1 => ?_, fun c1 => ?_⟩
    · have h := h.1 c1
      refine V_iconst dX4_meetsAllPartings_29 ?_
      exact V_zreturn dX4_meetsAllPartings_30 rfl (Or.inr rfl) ⟨rfl, _, rfl, (rgL rfl), h⟩
    · have h := h.2 c1
      refine V_aload_0 dX4_meetsAllPartings_10 ?_
      refine V_gR dX4_meetsAllPartings_11 fl_Fitting_15 ly_65 (by decide) wr_65_2 ?_
      refine V_iload_2 dX4_meetsAllPartings_14 ?_
      obtain ⟨g2, h⟩ := h
      refine V_aI dX4_meetsAllPartings_15 ly_67 (by decide) (by decide) g2 ?_
      refine V_iload_1 dX4_meetsAllPartings_16 ?_
      refine V_iand dX4_meetsAllPartings_17 ?_
      refine V_if_ne 23 dX4_meetsAllPartings_18 (by decide) (Rg.of _) ⟨fun c3 => ?_, fun c3 => ?_⟩
      · have h := h.1 c3
        refine V_iinc_2 (a2 := uu) dX4_meetsAllPartings_23 rfl ?_
        refine V_goto 2 dX4_meetsAllPartings_26 (by decide) ?_
        obtain ⟨g4, h⟩ := h
        exact ih _ _ r1 g4 h
      · have h := h.2 c3
        refine V_iconst dX4_meetsAllPartings_21 ?_
        exact V_zreturn dX4_meetsAllPartings_22 rfl (Or.inl rfl) ⟨rfl, _, rfl, (rgL rfl), h⟩
set_option maxRecDepth 100000 in
theorem w_X4_meetsAllPartings {Γ : GE} {x : XM} (hx : WX x) {v1 : Int} {q : Int → Prop} (r1 : Rg v1) (h : M_X4_meetsAllPartings x v1 q) : CV Γ 0 NF NF D_X4_meetsAllPartings [.ref (gB Γ + 65), vI v1] (mk Γ x) (QI Γ x q) := by
  refine CV.of rfl (cat_all rfl) (Nat.le_of_ble_eq_true rfl) ?_
  show V Γ 0 NF NF D_X4_meetsAllPartings (QI Γ x q) 0 [.ref (gB Γ + 65), vI v1, uu] [] NF (mk Γ x)
  unfold M_X4_meetsAllPartings at h
  refine V_iconst dX4_meetsAllPartings_0 ?_
  refine V_istore_2 dX4_meetsAllPartings_1 rfl rfl ?_
  obtain ⟨m9, h⟩ := h
  exact w_X4_meetsAllPartings_2 hx m9 _ _ r1 (rgL rfl) h
def M_X4_fewestTeachers_26 (q : Int → XM → Prop) : Nat → XM → Int → Int → Int → Int → Prop
  | 0, _, _, _, _, _ => False
  | n + 1, x, v2, v3, v4, v5 =>
  (((jshl 1 v2) ≤ v5 → q v3 x) ∧ (¬ ((jshl 1 v2) ≤ v5) → M_J6_bitCount_0f7a4 x v5  (fun z4 => ((v4 ≤ z4 → (Rg (v5 + 1)) ∧ (M_X4_fewestTeachers_26 q n) x v2 v3 v4 (v5 + 1)) ∧ (¬ (v4 ≤ z4) → M_X4_meetsAllPartings x v5  (fun z7 => ((z7 = 0 → (Rg (v5 + 1)) ∧ (M_X4_fewestTeachers_26 q n) x v2 v3 v4 (v5 + 1)) ∧ (¬ z7 = 0 → M_J6_bitCount_0f7a4 x v5  (fun z10 => (Rg (v5 + 1)) ∧ (M_X4_fewestTeachers_26 q n) x v2 v5 z10 (v5 + 1))))))))))
def M_X4_fewestTeachers (x : XM) (v1 : Int) (q : Int → XM → Prop) : Prop :=
  M_X4_gatherPartings x v1  (fun x1 => M_X0_count x1 1  (fun z2 => (Rg ((jshl 1 z2) - 1)) ∧ ∃ m : Nat, M_X4_fewestTeachers_26 q m x1 z2 ((jshl 1 z2) - 1) z2 0))
set_option maxRecDepth 100000 in
theorem w_X4_fewestTeachers_26 {Γ : GE} {q : Int → XM → Prop} : ∀ (n : Nat) (x : XM) (v2 : Int) (v3 : Int) (v4 : Int) (v5 : Int) , WX x → Rg v2 → Rg v3 → Rg v4 → Rg v5 → M_X4_fewestTeachers_26 q n x v2 v3 v4 v5 → V Γ 4 NF NF D_X4_fewestTeachers (QE Γ q) 26 [.ref (gB Γ + 65), uu, vI v2, vI v3, vI v4, vI v5] [] NF (mk Γ x) := by
  intro n
  induction n with
  | zero =>
    intro x v2 v3 v4 v5 hx r2 r3 r4 r5 h
    rw [M_X4_fewestTeachers_26.eq_1] at h
    exact h.elim
  | succ n ih =>
    intro x v2 v3 v4 v5 hx r2 r3 r4 r5 h
    rw [M_X4_fewestTeachers_26.eq_2] at h
    refine V_iload_5 dX4_fewestTeachers_26 ?_
    refine V_iconst dX4_fewestTeachers_28 ?_
    refine V_iload_2 dX4_fewestTeachers_29 ?_
    refine V_ishl dX4_fewestTeachers_30 ?_
    refine V_icmp_ge 69 dX4_fewestTeachers_31 (by decide) r5 (Rg.of _) ⟨fun c3 => ?_, fun c3 => ?_⟩
    · have h := h.1 c3
      refine V_iload_3 dX4_fewestTeachers_69 ?_
      exact V_ireturn dX4_fewestTeachers_70 rfl ⟨_, _, rfl, hx, rfl, r3, h⟩
    · have h := h.2 c3
      refine V_iload_5 dX4_fewestTeachers_34 ?_
      refine V_cSI1 (My := D_J6_bitCount_0f7a4) dX4_fewestTeachers_36 ml_Fitting_64 ce_J6_bitCount_0f7a4 (Nat.le_refl _) (Nat.le_refl _) (by decide) (sumL rfl) (w_J6_bitCount_0f7a4 hx r5 h) (fun z4 hz4 h => ?_)
      refine V_iload_4 dX4_fewestTeachers_39 ?_
      refine V_icmp_ge 63 dX4_fewestTeachers_41 (by decide) hz4 r4 ⟨fun c5 => ?_, fun c5 => ?_⟩
      · have h := h.1 c5
        refine V_iinc_5 (a5 := uu) dX4_fewestTeachers_63 rfl ?_
        refine V_goto 26 dX4_fewestTeachers_66 (by decide) ?_
        obtain ⟨g6, h⟩ := h
        exact ih _ _ _ _ _ hx r2 r3 r4 g6 h
      · have h := h.2 c5
        refine V_aload_0 dX4_fewestTeachers_44 ?_
        refine V_iload_5 dX4_fewestTeachers_45 ?_
        refine V_cVI1 (My := D_X4_meetsAllPartings) dX4_fewestTeachers_47 ml_Fitting_69 ce_X4_meetsAllPartings ly_65 (by decide) cl_4 (by decide) (Nat.le_refl _) (Nat.le_refl _) (by decide) (sumL rfl) (w_X4_meetsAllPartings hx r5 h) (fun z7 hz7 h => ?_)
        refine V_if_eq 63 dX4_fewestTeachers_50 (by decide) hz7 ⟨fun c8 => ?_, fun c8 => ?_⟩
        · have h := h.1 c8
          refine V_iinc_5 (a5 := uu) dX4_fewestTeachers_63 rfl ?_
          refine V_goto 26 dX4_fewestTeachers_66 (by decide) ?_
          obtain ⟨g9, h⟩ := h
          exact ih _ _ _ _ _ hx r2 r3 r4 g9 h
        · have h := h.2 c8
          refine V_iload_5 dX4_fewestTeachers_53 ?_
          refine V_istore_3 dX4_fewestTeachers_55 rfl rfl ?_
          refine V_iload_5 dX4_fewestTeachers_56 ?_
          refine V_cSI1 (My := D_J6_bitCount_0f7a4) dX4_fewestTeachers_58 ml_Fitting_64 ce_J6_bitCount_0f7a4 (Nat.le_refl _) (Nat.le_refl _) (by decide) (sumL rfl) (w_J6_bitCount_0f7a4 hx r5 h) (fun z10 hz10 h => ?_)
          refine V_istore_4 dX4_fewestTeachers_61 rfl rfl ?_
          refine V_iinc_5 (a5 := uu) dX4_fewestTeachers_63 rfl ?_
          refine V_goto 26 dX4_fewestTeachers_66 (by decide) ?_
          obtain ⟨g11, h⟩ := h
          exact ih _ _ _ _ _ hx r2 r5 hz10 g11 h
set_option maxRecDepth 100000 in
theorem w_X4_fewestTeachers {Γ : GE} {x : XM} (hx : WX x) {v1 : Int} {q : Int → XM → Prop} (r1 : Rg v1) (h : M_X4_fewestTeachers x v1 q) : CV Γ 4 NF NF D_X4_fewestTeachers [.ref (gB Γ + 65), vI v1] (mk Γ x) (QE Γ q) := by
  refine CV.of rfl (cat_all rfl) (Nat.le_of_ble_eq_true rfl) ?_
  show V Γ 4 NF NF D_X4_fewestTeachers (QE Γ q) 0 [.ref (gB Γ + 65), vI v1, uu, uu, uu, uu] [] NF (mk Γ x)
  unfold M_X4_fewestTeachers at h
  refine V_aload_0 dX4_fewestTeachers_0 ?_
  refine V_iload_1 dX4_fewestTeachers_1 ?_
  refine V_cVU1 (My := D_X4_gatherPartings) dX4_fewestTeachers_2 ml_Fitting_60 ce_X4_gatherPartings ly_65 (by decide) cl_4 (by decide) (Nat.le_refl _) (Nat.le_refl _) (by decide) (sumL rfl) (w_X4_gatherPartings hx r1 h) (fun x1 hx1 h => ?_)
  refine V_aload_0 dX4_fewestTeachers_5 ?_
  refine V_gR dX4_fewestTeachers_6 fl_Fitting_18 ly_65 (by decide) wr_65_0 ?_
  refine V_iconst dX4_fewestTeachers_9 ?_
  refine V_cVI1 (My := D_X0_count) dX4_fewestTeachers_10 ml_Fitting_22 ce_X0_count ly_3 (by decide) cl_0 (by decide) (Nat.le_refl _) (Nat.le_refl _) (by decide) (sumL rfl) (w_X0_count hx1 (rgL rfl) h) (fun z2 hz2 h => ?_)
  refine V_istore_2 dX4_fewestTeachers_13 rfl rfl ?_
  refine V_iconst dX4_fewestTeachers_14 ?_
  refine V_iload_2 dX4_fewestTeachers_15 ?_
  refine V_ishl dX4_fewestTeachers_16 ?_
  refine V_iconst dX4_fewestTeachers_17 ?_
  refine V_isub dX4_fewestTeachers_18 ?_
  refine V_istore_3 dX4_fewestTeachers_19 rfl rfl ?_
  refine V_iload_2 dX4_fewestTeachers_20 ?_
  refine V_istore_4 dX4_fewestTeachers_21 rfl rfl ?_
  refine V_iconst dX4_fewestTeachers_23 ?_
  refine V_istore_5 dX4_fewestTeachers_24 rfl rfl ?_
  obtain ⟨g12, h⟩ := h
  refine V_fg_1 ?_
  obtain ⟨m9, h⟩ := h
  exact w_X4_fewestTeachers_26 m9 _ _ _ _ _ hx1 hz2 g12 hz2 (rgL rfl) h
def M_X10_teach (x : XM) (v1 : Int) (q : Int → XM → Prop) : Prop :=
  ((v1 < 0 → q (-1000000002) x) ∧ (¬ (v1 < 0) → ((120 ≤ v1 → q (-1000000002) x) ∧ (¬ (120 ≤ v1) → M_X4_fewestTeachers x v1  (fun z3 x4 => q z3 x4)))))
set_option maxRecDepth 100000 in
theorem w_X10_teach {Γ : GE} {x : XM} (hx : WX x) {v1 : Int} {q : Int → XM → Prop} (r1 : Rg v1) (h : M_X10_teach x v1 q) : CV Γ 5 NF NF D_X10_teach [.ref (gB Γ + 0), vI v1] (mk Γ x) (QE Γ q) := by
  refine CV.of rfl (cat_all rfl) (Nat.le_of_ble_eq_true rfl) ?_
  show V Γ 5 NF NF D_X10_teach (QE Γ q) 0 [.ref (gB Γ + 0), vI v1] [] NF (mk Γ x)
  unfold M_X10_teach at h
  refine V_iload_1 dX10_teach_0 ?_
  refine V_if_lt 21 dX10_teach_1 (by decide) r1 ⟨fun c1 => ?_, fun c1 => ?_⟩
  · have h := h.1 c1
    refine V_ldc dX10_teach_21 kc_T_78 ?_
    exact V_ireturn dX10_teach_23 rfl ⟨_, _, rfl, hx, rfl, (rgL rfl), h⟩
  · have h := h.2 c1
    refine V_iload_1 dX10_teach_4 ?_
    refine V_bipush dX10_teach_5 (by decide) ?_
    refine V_icmp_ge 21 dX10_teach_7 (by decide) r1 (rgL rfl) ⟨fun c2 => ?_, fun c2 => ?_⟩
    · have h := h.1 c2
      refine V_ldc dX10_teach_21 kc_T_78 ?_
      exact V_ireturn dX10_teach_23 rfl ⟨_, _, rfl, hx, rfl, (rgL rfl), h⟩
    · have h := h.2 c2
      refine V_aload_0 dX10_teach_10 ?_
      refine V_gR dX10_teach_11 fl_T_55 ly_0 (by decide) wr_0_6 ?_
      refine V_iload_1 dX10_teach_14 ?_
      refine V_cVE1 (My := D_X4_fewestTeachers) dX10_teach_15 ml_T_224 ce_X4_fewestTeachers ly_65 (by decide) cl_4 (by decide) (Nat.le_refl _) (Nat.le_refl _) (by decide) (sumL rfl) (w_X4_fewestTeachers hx r1 h) (fun z3 x4 hx4 hz3 h => ?_)
      refine V_goto 23 dX10_teach_18 (by decide) ?_
      exact V_ireturn dX10_teach_23 rfl ⟨_, _, rfl, hx4, rfl, hz3, h⟩
def M_X11_apart_5 (q : Int → Prop) (x : XM) : Nat → Int → Int → Int → Int → Prop
  | 0, _, _, _, _ => False
  | n + 1, v1, v2, v3, v4 =>
  (((x 83 3) ≤ v4 → q v3) ∧ (¬ ((x 83 3) ≤ v4) → M_X11_passes x v1 v4  (fun z2 => M_X11_passes x v2 v4  (fun z3 => ((z2 = z3 → (Rg (v4 + 1)) ∧ (M_X11_apart_5 q x n) v1 v2 (jor v3 0) (v4 + 1)) ∧ (¬ z2 = z3 → (Rg (v4 + 1)) ∧ (M_X11_apart_5 q x n) v1 v2 (jor v3 (jshl 1 v4)) (v4 + 1)))))))
def M_X11_apart (x : XM) (v1 : Int) (v2 : Int) (q : Int → Prop) : Prop :=
  ∃ m : Nat, M_X11_apart_5 q x m v1 v2 0 0
set_option maxRecDepth 100000 in
theorem w_X11_apart_5 {Γ : GE} {q : Int → Prop} {x : XM} (hx : WX x) : ∀ (n : Nat) (v1 : Int) (v2 : Int) (v3 : Int) (v4 : Int) , Rg v1 → Rg v2 → Rg v3 → Rg v4 → M_X11_apart_5 q x n v1 v2 v3 v4 → V Γ 2 NF NF D_X11_apart (QI Γ x q) 5 [.ref (gB Γ + 83), vI v1, vI v2, vI v3, vI v4] [] NF (mk Γ x) := by
  intro n
  induction n with
  | zero =>
    intro v1 v2 v3 v4 r1 r2 r3 r4 h
    rw [M_X11_apart_5.eq_1] at h
    exact h.elim
  | succ n ih =>
    intro v1 v2 v3 v4 r1 r2 r3 r4 h
    rw [M_X11_apart_5.eq_2] at h
    refine V_iload_4 dX11_apart_5 ?_
    refine V_aload_0 dX11_apart_7 ?_
    refine V_gI dX11_apart_8 fl_R_145 ly_83 (by decide) wn_83_3 ?_
    refine V_icmp_ge 48 dX11_apart_11 (by decide) r4 (hx _ _) ⟨fun c1 => ?_, fun c1 => ?_⟩
    · have h := h.1 c1
      refine V_iload_3 dX11_apart_48 ?_
      exact V_ireturn dX11_apart_49 rfl ⟨rfl, _, rfl, r3, h⟩
    · have h := h.2 c1
      refine V_iload_3 dX11_apart_14 ?_
      refine V_aload_0 dX11_apart_15 ?_
      refine V_iload_1 dX11_apart_16 ?_
      refine V_iload_4 dX11_apart_17 ?_
      refine V_cVI2 (My := D_X11_passes) dX11_apart_19 ml_R_252 ce_X11_passes ly_83 (by decide) cl_11 (by decide) (Nat.le_refl _) (Nat.le_refl _) (by decide) (sumL rfl) (w_X11_passes hx r1 r4 h) (fun z2 hz2 h => ?_)
      refine V_aload_0 dX11_apart_22 ?_
      refine V_iload_2 dX11_apart_23 ?_
      refine V_iload_4 dX11_apart_24 ?_
      refine V_cVI2 (My := D_X11_passes) dX11_apart_26 ml_R_252 ce_X11_passes ly_83 (by decide) cl_11 (by decide) (Nat.le_refl _) (Nat.le_refl _) (by decide) (sumL rfl) (w_X11_passes hx r2 r4 h) (fun z3 hz3 h => ?_)
      refine V_icmp_eq 39 dX11_apart_29 (by decide) hz2 hz3 ⟨fun c4 => ?_, fun c4 => ?_⟩
      · have h := h.1 c4
        refine V_iconst dX11_apart_39 ?_
        refine V_ior dX11_apart_40 ?_
        refine V_istore_3 dX11_apart_41 rfl rfl ?_
        refine V_iinc_4 (a4 := uu) dX11_apart_42 rfl ?_
        refine V_goto 5 dX11_apart_45 (by decide) ?_
        obtain ⟨g5, h⟩ := h
        exact ih _ _ _ _ r1 r2 (Rg.of _) g5 h
      · have h := h.2 c4
        refine V_iconst dX11_apart_32 ?_
        refine V_iload_4 dX11_apart_33 ?_
        refine V_ishl dX11_apart_35 ?_
        refine V_goto 40 dX11_apart_36 (by decide) ?_
        refine V_ior dX11_apart_40 ?_
        refine V_istore_3 dX11_apart_41 rfl rfl ?_
        refine V_iinc_4 (a4 := uu) dX11_apart_42 rfl ?_
        refine V_goto 5 dX11_apart_45 (by decide) ?_
        obtain ⟨g6, h⟩ := h
        exact ih _ _ _ _ r1 r2 (Rg.of _) g6 h
set_option maxRecDepth 100000 in
theorem w_X11_apart {Γ : GE} {x : XM} (hx : WX x) {v1 v2 : Int} {q : Int → Prop} (r1 : Rg v1) (r2 : Rg v2) (h : M_X11_apart x v1 v2 q) : CV Γ 2 NF NF D_X11_apart [.ref (gB Γ + 83), vI v1, vI v2] (mk Γ x) (QI Γ x q) := by
  refine CV.of rfl (cat_all rfl) (Nat.le_of_ble_eq_true rfl) ?_
  show V Γ 2 NF NF D_X11_apart (QI Γ x q) 0 [.ref (gB Γ + 83), vI v1, vI v2, uu, uu] [] NF (mk Γ x)
  unfold M_X11_apart at h
  refine V_iconst dX11_apart_0 ?_
  refine V_istore_3 dX11_apart_1 rfl rfl ?_
  refine V_iconst dX11_apart_2 ?_
  refine V_istore_4 dX11_apart_3 rfl rfl ?_
  obtain ⟨m9, h⟩ := h
  exact w_X11_apart_5 hx m9 _ _ _ _ r1 r2 (rgL rfl) (rgL rfl) h
def M_X11_teach_118 (q : Int → XM → Prop) (K50 : XM → Int → Int → Prop) (x : XM) (v2 : Int) (v3 : Int) (v4 : Int) : Prop :=
  ((v4 = 0 → (Rg (v3 + (-1))) ∧ K50 x v2 (v3 + (-1))) ∧ (¬ v4 = 0 → (Rg (v3 + (-1))) ∧ K50 x v3 (v3 + (-1))))
def M_X11_teach_71 (q : Int → XM → Prop) (K50 : XM → Int → Int → Prop) : Nat → XM → Int → Int → Int → Int → Prop
  | 0, _, _, _, _, _ => False
  | n + 1, x, v2, v3, v4, v5 =>
  ((120 ≤ v5 → M_X11_teach_118 q K50 x v2 v3 v4) ∧ (¬ (120 ≤ v5) → ((v4 = 0 → M_X11_teach_118 q K50 x v2 v3 v4) ∧ (¬ v4 = 0 → (0 ≤ v5 ∧ v5 < 120) ∧ (((x 99 (v5.toNat)) = 0 → (Rg (v5 + 1)) ∧ (M_X11_teach_71 q K50 n) x v2 v3 1 (v5 + 1)) ∧ (¬ (x 99 (v5.toNat)) = 0 → (0 ≤ v5 ∧ v5 < 120) ∧ (((jand (x 99 (v5.toNat)) v3) = 0 → (Rg (v5 + 1)) ∧ (M_X11_teach_71 q K50 n) x v2 v3 0 (v5 + 1)) ∧ (¬ (jand (x 99 (v5.toNat)) v3) = 0 → (Rg (v5 + 1)) ∧ (M_X11_teach_71 q K50 n) x v2 v3 1 (v5 + 1)))))))))
def M_X11_teach_50 (q : Int → XM → Prop) : Nat → XM → Int → Int → Prop
  | 0, _, _, _ => False
  | n + 1, x, v2, v3 =>
  ((v3 < 0 → q v2 x) ∧ (¬ (v3 < 0) → M_X11_bitsOf x v3  (fun z5 => M_X11_bitsOf x v2  (fun z6 => ((z6 < z5 → (Rg (v3 + (-1))) ∧ (M_X11_teach_50 q n) x v2 (v3 + (-1))) ∧ (¬ (z6 < z5) → ∃ m : Nat, M_X11_teach_71 q (M_X11_teach_50 q n) m x v2 v3 1 0))))))
def M_X11_teach_15 (q : Int → XM → Prop) : Nat → XM → Int → Int → Prop
  | 0, _, _, _ => False
  | n + 1, x, v1, v2 =>
  ((120 ≤ v2 → (Rg ((jshl 1 (x 83 3)) - 1)) ∧ ∃ m : Nat, M_X11_teach_50 q m x ((jshl 1 (x 83 3)) - 1) ((jshl 1 (x 83 3)) - 1)) ∧ (¬ (120 ≤ v2) → M_X11_apart x v1 v2  (fun z22 => (0 ≤ v2 ∧ v2 < 120) ∧ (∀ x24 : XM, x24 = uX x 99 (v2.toNat) z22 → (Rg (v2 + 1)) ∧ (M_X11_teach_15 q n) x24 v1 (v2 + 1)))))
def M_X11_teach (x : XM) (v1 : Int) (q : Int → XM → Prop) : Prop :=
  M_X11_in x v1 0 119  (fun z1 => ((¬ z1 = 0 → ∃ m : Nat, M_X11_teach_15 q m x v1 0) ∧ (z1 = 0 → q (-1000000002) x)))
set_option maxRecDepth 100000 in
theorem w_X11_teach_118 {Γ : GE} {q : Int → XM → Prop} {K50 : XM → Int → Int → Prop} (hK50 : ∀ (x : XM) (v2 : Int) (v3 : Int) , WX x → Rg v2 → Rg v3 → K50 x v2 v3 → V Γ 3 NF NF D_X11_teach (QE Γ q) 50 [.ref (gB Γ + 83), uu, vI v2, vI v3, uu, uu] [] NF (mk Γ x)) : ∀ (x : XM) (v2 : Int) (v3 : Int) (v4 : Int) , WX x → Rg v2 → Rg v3 → Rg v4 → M_X11_teach_118 q K50 x v2 v3 v4 → V Γ 3 NF NF D_X11_teach (QE Γ q) 118 [.ref (gB Γ + 83), uu, vI v2, vI v3, vI v4, uu] [] NF (mk Γ x) := by
  intro x v2 v3 v4 hx r2 r3 r4 h
  unfold M_X11_teach_118 at h
  refine V_iload_4 dX11_teach_118 ?_
  refine V_if_eq 127 dX11_teach_120 (by decide) r4 ⟨fun c10 => ?_, fun c10 => ?_⟩
  · have h := h.1 c10
    refine V_iload_2 dX11_teach_127 ?_
    refine V_istore_2 dX11_teach_128 rfl rfl ?_
    refine V_iinc_3 (a3 := uu) dX11_teach_129 rfl ?_
    refine V_goto 50 dX11_teach_132 (by decide) ?_
    obtain ⟨g11, h⟩ := h
    refine V_fg_4 ?_
    exact hK50 _ _ _ hx r2 g11 h
  · have h := h.2 c10
    refine V_iload_3 dX11_teach_123 ?_
    refine V_goto 128 dX11_teach_124 (by decide) ?_
    refine V_istore_2 dX11_teach_128 rfl rfl ?_
    refine V_iinc_3 (a3 := uu) dX11_teach_129 rfl ?_
    refine V_goto 50 dX11_teach_132 (by decide) ?_
    obtain ⟨g12, h⟩ := h
    refine V_fg_4 ?_
    exact hK50 _ _ _ hx r3 g12 h
set_option maxRecDepth 100000 in
theorem w_X11_teach_71 {Γ : GE} {q : Int → XM → Prop} {K50 : XM → Int → Int → Prop} (hK50 : ∀ (x : XM) (v2 : Int) (v3 : Int) , WX x → Rg v2 → Rg v3 → K50 x v2 v3 → V Γ 3 NF NF D_X11_teach (QE Γ q) 50 [.ref (gB Γ + 83), uu, vI v2, vI v3, uu, uu] [] NF (mk Γ x)) : ∀ (n : Nat) (x : XM) (v2 : Int) (v3 : Int) (v4 : Int) (v5 : Int) , WX x → Rg v2 → Rg v3 → Rg v4 → Rg v5 → M_X11_teach_71 q K50 n x v2 v3 v4 v5 → V Γ 3 NF NF D_X11_teach (QE Γ q) 71 [.ref (gB Γ + 83), uu, vI v2, vI v3, vI v4, vI v5] [] NF (mk Γ x) := by
  intro n
  induction n with
  | zero =>
    intro x v2 v3 v4 v5 hx r2 r3 r4 r5 h
    rw [M_X11_teach_71.eq_1] at h
    exact h.elim
  | succ n ih =>
    intro x v2 v3 v4 v5 hx r2 r3 r4 r5 h
    rw [M_X11_teach_71.eq_2] at h
    refine V_iload_5 dX11_teach_71 ?_
    refine V_bipush dX11_teach_73 (by decide) ?_
    refine V_icmp_ge 118 dX11_teach_75 (by decide) r5 (rgL rfl) ⟨fun c9 => ?_, fun c9 => ?_⟩
    · have h := h.1 c9
      refine V_fg_5 ?_
      exact w_X11_teach_118 (hK50) _ _ _ _ hx r2 r3 r4 h
    · have h := h.2 c9
      refine V_iload_4 dX11_teach_78 ?_
      refine V_if_eq 118 dX11_teach_80 (by decide) r4 ⟨fun c13 => ?_, fun c13 => ?_⟩
      · have h := h.1 c13
        refine V_fg_5 ?_
        exact w_X11_teach_118 (hK50) _ _ _ _ hx r2 r3 r4 h
      · have h := h.2 c13
        refine V_aload_0 dX11_teach_83 ?_
        refine V_gR dX11_teach_84 fl_R_57 ly_83 (by decide) wr_83_34 ?_
        refine V_iload_5 dX11_teach_87 ?_
        obtain ⟨g14, h⟩ := h
        refine V_aI dX11_teach_89 ly_99 (by decide) (by decide) g14 ?_
        refine V_if_eq 105 dX11_teach_90 (by decide) (hx _ _) ⟨fun c15 => ?_, fun c15 => ?_⟩
        · have h := h.1 c15
          refine V_iconst dX11_teach_105 ?_
          refine V_goto 110 dX11_teach_106 (by decide) ?_
          refine V_istore_4 dX11_teach_110 rfl rfl ?_
          refine V_iinc_5 (a5 := uu) dX11_teach_112 rfl ?_
          refine V_goto 71 dX11_teach_115 (by decide) ?_
          obtain ⟨g16, h⟩ := h
          exact ih _ _ _ _ _ hx r2 r3 (rgL rfl) g16 h
        · have h := h.2 c15
          refine V_aload_0 dX11_teach_93 ?_
          refine V_gR dX11_teach_94 fl_R_57 ly_83 (by decide) wr_83_34 ?_
          refine V_iload_5 dX11_teach_97 ?_
          obtain ⟨g17, h⟩ := h
          refine V_aI dX11_teach_99 ly_99 (by decide) (by decide) g17 ?_
          refine V_iload_3 dX11_teach_100 ?_
          refine V_iand dX11_teach_101 ?_
          refine V_if_eq 109 dX11_teach_102 (by decide) (Rg.of _) ⟨fun c18 => ?_, fun c18 => ?_⟩
          · have h := h.1 c18
            refine V_iconst dX11_teach_109 ?_
            refine V_istore_4 dX11_teach_110 rfl rfl ?_
            refine V_iinc_5 (a5 := uu) dX11_teach_112 rfl ?_
            refine V_goto 71 dX11_teach_115 (by decide) ?_
            obtain ⟨g19, h⟩ := h
            exact ih _ _ _ _ _ hx r2 r3 (rgL rfl) g19 h
          · have h := h.2 c18
            refine V_iconst dX11_teach_105 ?_
            refine V_goto 110 dX11_teach_106 (by decide) ?_
            refine V_istore_4 dX11_teach_110 rfl rfl ?_
            refine V_iinc_5 (a5 := uu) dX11_teach_112 rfl ?_
            refine V_goto 71 dX11_teach_115 (by decide) ?_
            obtain ⟨g20, h⟩ := h
            exact ih _ _ _ _ _ hx r2 r3 (rgL rfl) g20 h
set_option maxRecDepth 100000 in
theorem w_X11_teach_50 {Γ : GE} {q : Int → XM → Prop} : ∀ (n : Nat) (x : XM) (v2 : Int) (v3 : Int) , WX x → Rg v2 → Rg v3 → M_X11_teach_50 q n x v2 v3 → V Γ 3 NF NF D_X11_teach (QE Γ q) 50 [.ref (gB Γ + 83), uu, vI v2, vI v3, uu, uu] [] NF (mk Γ x) := by
  intro n
  induction n with
  | zero =>
    intro x v2 v3 hx r2 r3 h
    rw [M_X11_teach_50.eq_1] at h
    exact h.elim
  | succ n ih =>
    intro x v2 v3 hx r2 r3 h
    rw [M_X11_teach_50.eq_2] at h
    refine V_iload_3 dX11_teach_50 ?_
    refine V_if_lt 135 dX11_teach_51 (by decide) r3 ⟨fun c4 => ?_, fun c4 => ?_⟩
    · have h := h.1 c4
      refine V_iload_2 dX11_teach_135 ?_
      exact V_ireturn dX11_teach_136 rfl ⟨_, _, rfl, hx, rfl, r2, h⟩
    · have h := h.2 c4
      refine V_iload_3 dX11_teach_54 ?_
      refine V_cSI1 (My := D_X11_bitsOf) dX11_teach_55 ml_R_233 ce_X11_bitsOf (Nat.le_refl _) (Nat.le_refl _) (by decide) (sumL rfl) (w_X11_bitsOf hx r3 h) (fun z5 hz5 h => ?_)
      refine V_iload_2 dX11_teach_58 ?_
      refine V_cSI1 (My := D_X11_bitsOf) dX11_teach_59 ml_R_233 ce_X11_bitsOf (Nat.le_refl _) (Nat.le_refl _) (by decide) (sumL rfl) (w_X11_bitsOf hx r2 h) (fun z6 hz6 h => ?_)
      refine V_icmp_gt 129 dX11_teach_62 (by decide) hz5 hz6 ⟨fun c7 => ?_, fun c7 => ?_⟩
      · have h := h.1 c7
        refine V_iinc_3 (a3 := uu) dX11_teach_129 rfl ?_
        refine V_goto 50 dX11_teach_132 (by decide) ?_
        obtain ⟨g8, h⟩ := h
        exact ih _ _ _ hx r2 g8 h
      · have h := h.2 c7
        refine V_iconst dX11_teach_65 ?_
        refine V_istore_4 dX11_teach_66 rfl rfl ?_
        refine V_iconst dX11_teach_68 ?_
        refine V_istore_5 dX11_teach_69 rfl rfl ?_
        obtain ⟨m9, h⟩ := h
        exact w_X11_teach_71 (ih) m9 _ _ _ _ _ hx r2 r3 (rgL rfl) (rgL rfl) h
set_option maxRecDepth 100000 in
theorem w_X11_teach_15 {Γ : GE} {q : Int → XM → Prop} : ∀ (n : Nat) (x : XM) (v1 : Int) (v2 : Int) , WX x → Rg v1 → Rg v2 → M_X11_teach_15 q n x v1 v2 → V Γ 3 NF NF D_X11_teach (QE Γ q) 15 [.ref (gB Γ + 83), vI v1, vI v2, uu, uu, uu] [] NF (mk Γ x) := by
  intro n
  induction n with
  | zero =>
    intro x v1 v2 hx r1 r2 h
    rw [M_X11_teach_15.eq_1] at h
    exact h.elim
  | succ n ih =>
    intro x v1 v2 hx r1 r2 h
    rw [M_X11_teach_15.eq_2] at h
    refine V_iload_2 dX11_teach_15 ?_
    refine V_bipush dX11_teach_16 (by decide) ?_
    refine V_icmp_ge 39 dX11_teach_18 (by decide) r2 (rgL rfl) ⟨fun c3 => ?_, fun c3 => ?_⟩
    · have h := h.1 c3
      refine V_iconst dX11_teach_39 ?_
      refine V_aload_0 dX11_teach_40 ?_
      refine V_gI dX11_teach_41 fl_R_145 ly_83 (by decide) wn_83_3 ?_
      refine V_ishl dX11_teach_44 ?_
      refine V_iconst dX11_teach_45 ?_
      refine V_isub dX11_teach_46 ?_
      refine V_istore_2 dX11_teach_47 rfl rfl ?_
      refine V_iload_2 dX11_teach_48 ?_
      refine V_istore_3 dX11_teach_49 rfl rfl ?_
      obtain ⟨g21, h⟩ := h
      refine V_fg_1 ?_
      obtain ⟨m9, h⟩ := h
      exact w_X11_teach_50 m9 _ _ _ hx g21 g21 h
    · have h := h.2 c3
      refine V_aload_0 dX11_teach_21 ?_
      refine V_gR dX11_teach_22 fl_R_57 ly_83 (by decide) wr_83_34 ?_
      refine V_iload_2 dX11_teach_25 ?_
      refine V_aload_0 dX11_teach_26 ?_
      refine V_iload_1 dX11_teach_27 ?_
      refine V_iload_2 dX11_teach_28 ?_
      refine V_cVI2 (My := D_X11_apart) dX11_teach_29 ml_R_258 ce_X11_apart ly_83 (by decide) cl_11 (by decide) (Nat.le_refl _) (Nat.le_refl _) (by decide) (sumL rfl) (w_X11_apart hx r1 r2 h) (fun z22 hz22 h => ?_)
      obtain ⟨g23, h⟩ := h
      refine V_sIe dX11_teach_32 ly_99 (by decide) (by decide) g23 (fun x24 ex24 => ?_)
      have h := h x24 ex24
      have hx24 := hx.upE hz22 ex24
      refine V_iinc_2 (a2 := uu) dX11_teach_33 rfl ?_
      refine V_goto 15 dX11_teach_36 (by decide) ?_
      obtain ⟨g25, h⟩ := h
      exact ih _ _ _ hx24 r1 g25 h
set_option maxRecDepth 100000 in
theorem w_X11_teach {Γ : GE} {x : XM} (hx : WX x) {v1 : Int} {q : Int → XM → Prop} (r1 : Rg v1) (h : M_X11_teach x v1 q) : CV Γ 3 NF NF D_X11_teach [.ref (gB Γ + 83), vI v1] (mk Γ x) (QE Γ q) := by
  refine CV.of rfl (cat_all rfl) (Nat.le_of_ble_eq_true rfl) ?_
  show V Γ 3 NF NF D_X11_teach (QE Γ q) 0 [.ref (gB Γ + 83), vI v1, uu, uu, uu, uu] [] NF (mk Γ x)
  unfold M_X11_teach at h
  refine V_iload_1 dX11_teach_0 ?_
  refine V_iconst dX11_teach_1 ?_
  refine V_bipush dX11_teach_2 (by decide) ?_
  refine V_cSI3 (My := D_X11_in) dX11_teach_4 ml_R_73 ce_X11_in (Nat.le_refl _) (Nat.le_refl _) (by decide) (sumL rfl) (w_X11_in hx r1 (rgL rfl) (rgL rfl) h) (fun z1 hz1 h => ?_)
  refine V_if_ne 13 dX11_teach_7 (by decide) hz1 ⟨fun c2 => ?_, fun c2 => ?_⟩
  · have h := h.1 c2
    refine V_iconst dX11_teach_13 ?_
    refine V_istore_2 dX11_teach_14 rfl rfl ?_
    obtain ⟨m9, h⟩ := h
    exact w_X11_teach_15 m9 _ _ _ hx r1 (rgL rfl) h
  · have h := h.2 c2
    refine V_ldc dX11_teach_10 kc_R_77 ?_
    exact V_ireturn dX11_teach_12 rfl ⟨_, _, rfl, hx, rfl, (rgL rfl), h⟩
def M_X6_readWeights_36 (q : XM → Prop) : Nat → XM → Int → Prop
  | 0, _, _ => False
  | n + 1, x, v1 =>
  M_X0_count x 4  (fun z3 => ((z3 ≤ v1 → q x) ∧ (¬ (z3 ≤ v1) → M_X0_weight x v1  (fun z5 => (0 ≤ v1 ∧ v1 < 5) ∧ (∀ x7 : XM, x7 = uX x 70 (v1.toNat) z5 → (Rg (v1 + 1)) ∧ (M_X6_readWeights_36 q n) x7 (v1 + 1))))))
def M_X6_readWeights_2 (q : XM → Prop) : Nat → XM → Int → Prop
  | 0, _, _ => False
  | n + 1, x, v1 =>
  M_X0_count x 1  (fun z1 => ((z1 ≤ v1 → ∃ m : Nat, M_X6_readWeights_36 q m x 0) ∧ (¬ (z1 ≤ v1) → M_X0_holds x v1  (fun z9 => (0 ≤ v1 ∧ v1 < 12) ∧ (∀ x11 : XM, x11 = uX x 69 (v1.toNat) z9 → (Rg (v1 + 1)) ∧ (M_X6_readWeights_2 q n) x11 (v1 + 1))))))
def M_X6_readWeights (x : XM) (q : XM → Prop) : Prop :=
  ∃ m : Nat, M_X6_readWeights_2 q m x 0
set_option maxRecDepth 100000 in
theorem w_X6_readWeights_36 {Γ : GE} {q : XM → Prop} : ∀ (n : Nat) (x : XM) (v1 : Int) , WX x → Rg v1 → M_X6_readWeights_36 q n x v1 → V Γ 3 NF NF D_X6_readWeights (QU Γ q) 36 [.ref (gB Γ + 68), vI v1] [] NF (mk Γ x) := by
  intro n
  induction n with
  | zero =>
    intro x v1 hx r1 h
    rw [M_X6_readWeights_36.eq_1] at h
    exact h.elim
  | succ n ih =>
    intro x v1 hx r1 h
    rw [M_X6_readWeights_36.eq_2] at h
    refine V_iload_1 dX6_readWeights_36 ?_
    refine V_aload_0 dX6_readWeights_37 ?_
    refine V_gR dX6_readWeights_38 fl_Matching_21 ly_68 (by decide) wr_68_0 ?_
    refine V_iconst dX6_readWeights_41 ?_
    refine V_cVI1 (My := D_X0_count) dX6_readWeights_42 ml_Matching_50 ce_X0_count ly_3 (by decide) cl_0 (by decide) (Nat.le_refl _) (Nat.le_refl _) (by decide) (sumL rfl) (w_X0_count hx (rgL rfl) h) (fun z3 hz3 h => ?_)
    refine V_icmp_ge 68 dX6_readWeights_45 (by decide) r1 hz3 ⟨fun c4 => ?_, fun c4 => ?_⟩
    · have h := h.1 c4
      exact V_vreturn dX6_readWeights_68 rfl ⟨_, rfl, hx, rfl, h⟩
    · have h := h.2 c4
      refine V_aload_0 dX6_readWeights_48 ?_
      refine V_gR dX6_readWeights_49 fl_Matching_15 ly_68 (by decide) wr_68_2 ?_
      refine V_iload_1 dX6_readWeights_52 ?_
      refine V_aload_0 dX6_readWeights_53 ?_
      refine V_gR dX6_readWeights_54 fl_Matching_21 ly_68 (by decide) wr_68_0 ?_
      refine V_iload_1 dX6_readWeights_57 ?_
      refine V_cVI1 (My := D_X0_weight) dX6_readWeights_58 ml_Matching_56 ce_X0_weight ly_3 (by decide) cl_0 (by decide) (Nat.le_refl _) (Nat.le_refl _) (by decide) (sumL rfl) (w_X0_weight hx r1 h) (fun z5 hz5 h => ?_)
      obtain ⟨g6, h⟩ := h
      refine V_sIe dX6_readWeights_61 ly_70 (by decide) (by decide) g6 (fun x7 ex7 => ?_)
      have h := h x7 ex7
      have hx7 := hx.upE hz5 ex7
      refine V_iinc_1 (a1 := uu) dX6_readWeights_62 rfl ?_
      refine V_goto 36 dX6_readWeights_65 (by decide) ?_
      obtain ⟨g8, h⟩ := h
      exact ih _ _ hx7 g8 h
set_option maxRecDepth 100000 in
theorem w_X6_readWeights_2 {Γ : GE} {q : XM → Prop} : ∀ (n : Nat) (x : XM) (v1 : Int) , WX x → Rg v1 → M_X6_readWeights_2 q n x v1 → V Γ 3 NF NF D_X6_readWeights (QU Γ q) 2 [.ref (gB Γ + 68), vI v1] [] NF (mk Γ x) := by
  intro n
  induction n with
  | zero =>
    intro x v1 hx r1 h
    rw [M_X6_readWeights_2.eq_1] at h
    exact h.elim
  | succ n ih =>
    intro x v1 hx r1 h
    rw [M_X6_readWeights_2.eq_2] at h
    refine V_iload_1 dX6_readWeights_2 ?_
    refine V_aload_0 dX6_readWeights_3 ?_
    refine V_gR dX6_readWeights_4 fl_Matching_21 ly_68 (by decide) wr_68_0 ?_
    refine V_iconst dX6_readWeights_7 ?_
    refine V_cVI1 (My := D_X0_count) dX6_readWeights_8 ml_Matching_50 ce_X0_count ly_3 (by decide) cl_0 (by decide) (Nat.le_refl _) (Nat.le_refl _) (by decide) (sumL rfl) (w_X0_count hx (rgL rfl) h) (fun z1 hz1 h => ?_)
    refine V_icmp_ge 34 dX6_readWeights_11 (by decide) r1 hz1 ⟨fun c2 => ?_, fun c2 => ?_⟩
    · have h := h.1 c2
      refine V_iconst dX6_readWeights_34 ?_
      refine V_istore_1 dX6_readWeights_35 rfl rfl ?_
      obtain ⟨m9, h⟩ := h
      exact w_X6_readWeights_36 m9 _ _ hx (rgL rfl) h
    · have h := h.2 c2
      refine V_aload_0 dX6_readWeights_14 ?_
      refine V_gR dX6_readWeights_15 fl_Matching_9 ly_68 (by decide) wr_68_1 ?_
      refine V_iload_1 dX6_readWeights_18 ?_
      refine V_aload_0 dX6_readWeights_19 ?_
      refine V_gR dX6_readWeights_20 fl_Matching_21 ly_68 (by decide) wr_68_0 ?_
      refine V_iload_1 dX6_readWeights_23 ?_
      refine V_cVI1 (My := D_X0_holds) dX6_readWeights_24 ml_Matching_53 ce_X0_holds ly_3 (by decide) cl_0 (by decide) (Nat.le_refl _) (Nat.le_refl _) (by decide) (sumL rfl) (w_X0_holds hx r1 h) (fun z9 hz9 h => ?_)
      obtain ⟨g10, h⟩ := h
      refine V_sIe dX6_readWeights_27 ly_69 (by decide) (by decide) g10 (fun x11 ex11 => ?_)
      have h := h x11 ex11
      have hx11 := hx.upE hz9 ex11
      refine V_iinc_1 (a1 := uu) dX6_readWeights_28 rfl ?_
      refine V_goto 2 dX6_readWeights_31 (by decide) ?_
      obtain ⟨g12, h⟩ := h
      exact ih _ _ hx11 g12 h
set_option maxRecDepth 100000 in
theorem w_X6_readWeights {Γ : GE} {x : XM} (hx : WX x) {q : XM → Prop} (h : M_X6_readWeights x q) : CV Γ 3 NF NF D_X6_readWeights [.ref (gB Γ + 68)] (mk Γ x) (QU Γ q) := by
  refine CV.of rfl (cat_all rfl) (Nat.le_of_ble_eq_true rfl) ?_
  show V Γ 3 NF NF D_X6_readWeights (QU Γ q) 0 [.ref (gB Γ + 68), uu] [] NF (mk Γ x)
  unfold M_X6_readWeights at h
  refine V_iconst dX6_readWeights_0 ?_
  refine V_istore_1 dX6_readWeights_1 rfl rfl ?_
  obtain ⟨m9, h⟩ := h
  exact w_X6_readWeights_2 m9 _ _ hx (rgL rfl) h
def M_X6_openNeeds_4 (q : Int → Prop) (x : XM) : Nat → Int → Int → Prop
  | 0, _, _ => False
  | n + 1, v1, v2 =>
  M_X0_count x 4  (fun z1 => ((z1 ≤ v2 → q v1) ∧ (¬ (z1 ≤ v2) → M_X0_sewnTo x v2  (fun z3 => ((¬ z3 = (-1) → (Rg (v2 + 1)) ∧ (M_X6_openNeeds_4 q x n) v1 (v2 + 1)) ∧ (z3 = (-1) → (Rg (v2 + 1)) ∧ (M_X6_openNeeds_4 q x n) (jor v1 (jshl 1 v2)) (v2 + 1)))))))
def M_X6_openNeeds (x : XM) (q : Int → Prop) : Prop :=
  ∃ m : Nat, M_X6_openNeeds_4 q x m 0 0
set_option maxRecDepth 100000 in
theorem w_X6_openNeeds_4 {Γ : GE} {q : Int → Prop} {x : XM} (hx : WX x) : ∀ (n : Nat) (v1 : Int) (v2 : Int) , Rg v1 → Rg v2 → M_X6_openNeeds_4 q x n v1 v2 → V Γ 4 NF NF D_X6_openNeeds (QI Γ x q) 4 [.ref (gB Γ + 68), vI v1, vI v2] [] NF (mk Γ x) := by
  intro n
  induction n with
  | zero =>
    intro v1 v2 r1 r2 h
    rw [M_X6_openNeeds_4.eq_1] at h
    exact h.elim
  | succ n ih =>
    intro v1 v2 r1 r2 h
    rw [M_X6_openNeeds_4.eq_2] at h
    refine V_iload_2 dX6_openNeeds_4 ?_
    refine V_aload_0 dX6_openNeeds_5 ?_
    refine V_gR dX6_openNeeds_6 fl_Matching_21 ly_68 (by decide) wr_68_0 ?_
    refine V_iconst dX6_openNeeds_9 ?_
    refine V_cVI1 (My := D_X0_count) dX6_openNeeds_10 ml_Matching_50 ce_X0_count ly_3 (by decide) cl_0 (by decide) (Nat.le_refl _) (Nat.le_refl _) (by decide) (sumL rfl) (w_X0_count hx (rgL rfl) h) (fun z1 hz1 h => ?_)
    refine V_icmp_ge 40 dX6_openNeeds_13 (by decide) r2 hz1 ⟨fun c2 => ?_, fun c2 => ?_⟩
    · have h := h.1 c2
      refine V_iload_1 dX6_openNeeds_40 ?_
      exact V_ireturn dX6_openNeeds_41 rfl ⟨rfl, _, rfl, r1, h⟩
    · have h := h.2 c2
      refine V_aload_0 dX6_openNeeds_16 ?_
      refine V_gR dX6_openNeeds_17 fl_Matching_21 ly_68 (by decide) wr_68_0 ?_
      refine V_iload_2 dX6_openNeeds_20 ?_
      refine V_cVI1 (My := D_X0_sewnTo) dX6_openNeeds_21 ml_Matching_59 ce_X0_sewnTo ly_3 (by decide) cl_0 (by decide) (Nat.le_refl _) (Nat.le_refl _) (by decide) (sumL rfl) (w_X0_sewnTo hx r2 h) (fun z3 hz3 h => ?_)
      refine V_iconst dX6_openNeeds_24 ?_
      refine V_icmp_ne 34 dX6_openNeeds_25 (by decide) hz3 (rgL rfl) ⟨fun c4 => ?_, fun c4 => ?_⟩
      · have h := h.1 c4
        refine V_iinc_2 (a2 := uu) dX6_openNeeds_34 rfl ?_
        refine V_goto 4 dX6_openNeeds_37 (by decide) ?_
        obtain ⟨g5, h⟩ := h
        exact ih _ _ r1 g5 h
      · have h := h.2 c4
        refine V_iload_1 dX6_openNeeds_28 ?_
        refine V_iconst dX6_openNeeds_29 ?_
        refine V_iload_2 dX6_openNeeds_30 ?_
        refine V_ishl dX6_openNeeds_31 ?_
        refine V_ior dX6_openNeeds_32 ?_
        refine V_istore_1 dX6_openNeeds_33 rfl rfl ?_
        refine V_iinc_2 (a2 := uu) dX6_openNeeds_34 rfl ?_
        refine V_goto 4 dX6_openNeeds_37 (by decide) ?_
        obtain ⟨g6, h⟩ := h
        exact ih _ _ (Rg.of _) g6 h
set_option maxRecDepth 100000 in
theorem w_X6_openNeeds {Γ : GE} {x : XM} (hx : WX x) {q : Int → Prop} (h : M_X6_openNeeds x q) : CV Γ 4 NF NF D_X6_openNeeds [.ref (gB Γ + 68)] (mk Γ x) (QI Γ x q) := by
  refine CV.of rfl (cat_all rfl) (Nat.le_of_ble_eq_true rfl) ?_
  show V Γ 4 NF NF D_X6_openNeeds (QI Γ x q) 0 [.ref (gB Γ + 68), uu, uu] [] NF (mk Γ x)
  unfold M_X6_openNeeds at h
  refine V_iconst dX6_openNeeds_0 ?_
  refine V_istore_1 dX6_openNeeds_1 rfl rfl ?_
  refine V_iconst dX6_openNeeds_2 ?_
  refine V_istore_2 dX6_openNeeds_3 rfl rfl ?_
  obtain ⟨m9, h⟩ := h
  exact w_X6_openNeeds_4 hx m9 _ _ (rgL rfl) (rgL rfl) h
