def M_X6_leastNeed_9 (q : Int → Prop) (x : XM) : Nat → Int → Int → Int → Prop
  | 0, _, _, _ => False
  | n + 1, v1, v2, v3 =>
  ((5 ≤ v3 → q v2) ∧ (¬ (5 ≤ v3) → M_X10_has x v1 v3  (fun z3 => ((z3 = 0 → (Rg (v3 + 1)) ∧ (M_X6_leastNeed_9 q x n) v1 v2 (v3 + 1)) ∧ (¬ z3 = 0 → (0 ≤ v3 ∧ v3 < 5) ∧ (0 ≤ v2 ∧ v2 < 5) ∧ (((x 70 (v2.toNat)) ≤ (x 70 (v3.toNat)) → (Rg (v3 + 1)) ∧ (M_X6_leastNeed_9 q x n) v1 v2 (v3 + 1)) ∧ (¬ ((x 70 (v2.toNat)) ≤ (x 70 (v3.toNat))) → (Rg (v3 + 1)) ∧ (M_X6_leastNeed_9 q x n) v1 v3 (v3 + 1))))))))
def M_X6_leastNeed (x : XM) (v1 : Int) (q : Int → Prop) : Prop :=
  M_J6_numberOfTrailingZeros_0f7a4 x v1  (fun z1 => (Rg (z1 + 1)) ∧ ∃ m : Nat, M_X6_leastNeed_9 q x m v1 z1 (z1 + 1))
set_option maxRecDepth 100000 in
theorem w_X6_leastNeed_9 {Γ : GE} {q : Int → Prop} {x : XM} (hx : WX x) : ∀ (n : Nat) (v1 : Int) (v2 : Int) (v3 : Int) , Rg v1 → Rg v2 → Rg v3 → M_X6_leastNeed_9 q x n v1 v2 v3 → V Γ 1 NF NF D_X6_leastNeed (QI Γ x q) 9 [.ref (gB Γ + 68), vI v1, vI v2, vI v3] [] NF (mk Γ x) := by
  intro n
  induction n with
  | zero =>
    intro v1 v2 v3 r1 r2 r3 h
    rw [M_X6_leastNeed_9.eq_1] at h
    exact h.elim
  | succ n ih =>
    intro v1 v2 v3 r1 r2 r3 h
    rw [M_X6_leastNeed_9.eq_2] at h
    refine V_iload_3 dX6_leastNeed_9 ?_
    refine V_iconst dX6_leastNeed_10 ?_
    refine V_icmp_ge 45 dX6_leastNeed_11 (by decide) r3 (rgL rfl) ⟨fun c2 => ?_, fun c2 => ?_⟩
    · have h := h.1 c2
      refine V_iload_2 dX6_leastNeed_45 ?_
      exact V_ireturn dX6_leastNeed_46 rfl ⟨rfl, _, rfl, r2, h⟩
    · have h := h.2 c2
      refine V_iload_1 dX6_leastNeed_14 ?_
      refine V_iload_3 dX6_leastNeed_15 ?_
      refine V_cNI2 (My := D_X10_has) dX6_leastNeed_16 (by decide) ce_X10_has (Nat.le_refl _) (Nat.le_refl _) (by decide) (sumL rfl) (w_X10_has hx r1 r3 h) (fun z3 hz3 h => ?_)
      refine V_if_eq 39 dX6_leastNeed_19 (by decide) hz3 ⟨fun c4 => ?_, fun c4 => ?_⟩
      · have h := h.1 c4
        refine V_iinc_3 (a3 := uu) dX6_leastNeed_39 rfl ?_
        refine V_goto 9 dX6_leastNeed_42 (by decide) ?_
        obtain ⟨g5, h⟩ := h
        exact ih _ _ _ r1 r2 g5 h
      · have h := h.2 c4
        refine V_aload_0 dX6_leastNeed_22 ?_
        refine V_gR dX6_leastNeed_23 fl_Matching_15 ly_68 (by decide) wr_68_2 ?_
        refine V_iload_3 dX6_leastNeed_26 ?_
        obtain ⟨g6, h⟩ := h
        refine V_aI dX6_leastNeed_27 ly_70 (by decide) (by decide) g6 ?_
        refine V_aload_0 dX6_leastNeed_28 ?_
        refine V_gR dX6_leastNeed_29 fl_Matching_15 ly_68 (by decide) wr_68_2 ?_
        refine V_iload_2 dX6_leastNeed_32 ?_
        obtain ⟨g7, h⟩ := h
        refine V_aI dX6_leastNeed_33 ly_70 (by decide) (by decide) g7 ?_
        refine V_icmp_ge 39 dX6_leastNeed_34 (by decide) (hx _ _) (hx _ _) ⟨fun c8 => ?_, fun c8 => ?_⟩
        · have h := h.1 c8
          refine V_iinc_3 (a3 := uu) dX6_leastNeed_39 rfl ?_
          refine V_goto 9 dX6_leastNeed_42 (by decide) ?_
          obtain ⟨g9, h⟩ := h
          exact ih _ _ _ r1 r2 g9 h
        · have h := h.2 c8
          refine V_iload_3 dX6_leastNeed_37 ?_
          refine V_istore_2 dX6_leastNeed_38 rfl rfl ?_
          refine V_iinc_3 (a3 := uu) dX6_leastNeed_39 rfl ?_
          refine V_goto 9 dX6_leastNeed_42 (by decide) ?_
          obtain ⟨g10, h⟩ := h
          exact ih _ _ _ r1 r3 g10 h
set_option maxRecDepth 100000 in
theorem w_X6_leastNeed {Γ : GE} {x : XM} (hx : WX x) {v1 : Int} {q : Int → Prop} (r1 : Rg v1) (h : M_X6_leastNeed x v1 q) : CV Γ 1 NF NF D_X6_leastNeed [.ref (gB Γ + 68), vI v1] (mk Γ x) (QI Γ x q) := by
  refine CV.of rfl (cat_all rfl) (Nat.le_of_ble_eq_true rfl) ?_
  show V Γ 1 NF NF D_X6_leastNeed (QI Γ x q) 0 [.ref (gB Γ + 68), vI v1, uu, uu] [] NF (mk Γ x)
  unfold M_X6_leastNeed at h
  refine V_iload_1 dX6_leastNeed_0 ?_
  refine V_cSI1 (My := D_J6_numberOfTrailingZeros_0f7a4) dX6_leastNeed_1 ml_Matching_68 ce_J6_numberOfTrailingZeros_0f7a4 (Nat.le_refl _) (Nat.le_refl _) (by decide) (sumL rfl) (w_J6_numberOfTrailingZeros_0f7a4 hx r1 h) (fun z1 hz1 h => ?_)
  refine V_istore_2 dX6_leastNeed_4 rfl rfl ?_
  refine V_iload_2 dX6_leastNeed_5 ?_
  refine V_iconst dX6_leastNeed_6 ?_
  refine V_iadd dX6_leastNeed_7 ?_
  refine V_istore_3 dX6_leastNeed_8 rfl rfl ?_
  obtain ⟨g11, h⟩ := h
  obtain ⟨m9, h⟩ := h
  exact w_X6_leastNeed_9 hx m9 _ _ _ r1 hz1 g11 h
def M_X6_weakestFor_5 (q : Int → Prop) (x : XM) : Nat → Int → Int → Int → Int → Prop
  | 0, _, _, _, _ => False
  | n + 1, v1, v2, v3, v4 =>
  M_X0_count x 1  (fun z1 => ((z1 ≤ v4 → q v3) ∧ (¬ (z1 ≤ v4) → M_X10_has x v2 v4  (fun z3 => ((z3 = 0 → (Rg (v4 + 1)) ∧ (M_X6_weakestFor_5 q x n) v1 v2 v3 (v4 + 1)) ∧ (¬ z3 = 0 → (0 ≤ v4 ∧ v4 < 12) ∧ (0 ≤ v1 ∧ v1 < 5) ∧ (((x 69 (v4.toNat)) < (x 70 (v1.toNat)) → (Rg (v4 + 1)) ∧ (M_X6_weakestFor_5 q x n) v1 v2 v3 (v4 + 1)) ∧ (¬ ((x 69 (v4.toNat)) < (x 70 (v1.toNat))) → ((v3 = (-1) → (Rg (v4 + 1)) ∧ (M_X6_weakestFor_5 q x n) v1 v2 v4 (v4 + 1)) ∧ (¬ v3 = (-1) → (0 ≤ v4 ∧ v4 < 12) ∧ (0 ≤ v3 ∧ v3 < 12) ∧ (((x 69 (v3.toNat)) ≤ (x 69 (v4.toNat)) → (Rg (v4 + 1)) ∧ (M_X6_weakestFor_5 q x n) v1 v2 v3 (v4 + 1)) ∧ (¬ ((x 69 (v3.toNat)) ≤ (x 69 (v4.toNat))) → (Rg (v4 + 1)) ∧ (M_X6_weakestFor_5 q x n) v1 v2 v4 (v4 + 1)))))))))))))
def M_X6_weakestFor (x : XM) (v1 : Int) (v2 : Int) (q : Int → Prop) : Prop :=
  ∃ m : Nat, M_X6_weakestFor_5 q x m v1 v2 (-1) 0
set_option maxRecDepth 100000 in
theorem w_X6_weakestFor_5 {Γ : GE} {q : Int → Prop} {x : XM} (hx : WX x) : ∀ (n : Nat) (v1 : Int) (v2 : Int) (v3 : Int) (v4 : Int) , Rg v1 → Rg v2 → Rg v3 → Rg v4 → M_X6_weakestFor_5 q x n v1 v2 v3 v4 → V Γ 1 NF NF D_X6_weakestFor (QI Γ x q) 5 [.ref (gB Γ + 68), vI v1, vI v2, vI v3, vI v4] [] NF (mk Γ x) := by
  intro n
  induction n with
  | zero =>
    intro v1 v2 v3 v4 r1 r2 r3 r4 h
    rw [M_X6_weakestFor_5.eq_1] at h
    exact h.elim
  | succ n ih =>
    intro v1 v2 v3 v4 r1 r2 r3 r4 h
    rw [M_X6_weakestFor_5.eq_2] at h
    refine V_iload_4 dX6_weakestFor_5 ?_
    refine V_aload_0 dX6_weakestFor_7 ?_
    refine V_gR dX6_weakestFor_8 fl_Matching_21 ly_68 (by decide) wr_68_0 ?_
    refine V_iconst dX6_weakestFor_11 ?_
    refine V_cVI1 (My := D_X0_count) dX6_weakestFor_12 ml_Matching_50 ce_X0_count ly_3 (by decide) cl_0 (by decide) (Nat.le_refl _) (Nat.le_refl _) (by decide) (sumL rfl) (w_X0_count hx (rgL rfl) h) (fun z1 hz1 h => ?_)
    refine V_icmp_ge 73 dX6_weakestFor_15 (by decide) r4 hz1 ⟨fun c2 => ?_, fun c2 => ?_⟩
    · have h := h.1 c2
      refine V_iload_3 dX6_weakestFor_73 ?_
      exact V_ireturn dX6_weakestFor_74 rfl ⟨rfl, _, rfl, r3, h⟩
    · have h := h.2 c2
      refine V_iload_2 dX6_weakestFor_18 ?_
      refine V_iload_4 dX6_weakestFor_19 ?_
      refine V_cNI2 (My := D_X10_has) dX6_weakestFor_21 (by decide) ce_X10_has (Nat.le_refl _) (Nat.le_refl _) (by decide) (sumL rfl) (w_X10_has hx r2 r4 h) (fun z3 hz3 h => ?_)
      refine V_if_eq 67 dX6_weakestFor_24 (by decide) hz3 ⟨fun c4 => ?_, fun c4 => ?_⟩
      · have h := h.1 c4
        refine V_iinc_4 (a4 := uu) dX6_weakestFor_67 rfl ?_
        refine V_goto 5 dX6_weakestFor_70 (by decide) ?_
        obtain ⟨g5, h⟩ := h
        exact ih _ _ _ _ r1 r2 r3 g5 h
      · have h := h.2 c4
        refine V_aload_0 dX6_weakestFor_27 ?_
        refine V_gR dX6_weakestFor_28 fl_Matching_9 ly_68 (by decide) wr_68_1 ?_
        refine V_iload_4 dX6_weakestFor_31 ?_
        obtain ⟨g6, h⟩ := h
        refine V_aI dX6_weakestFor_33 ly_69 (by decide) (by decide) g6 ?_
        refine V_aload_0 dX6_weakestFor_34 ?_
        refine V_gR dX6_weakestFor_35 fl_Matching_15 ly_68 (by decide) wr_68_2 ?_
        refine V_iload_1 dX6_weakestFor_38 ?_
        obtain ⟨g7, h⟩ := h
        refine V_aI dX6_weakestFor_39 ly_70 (by decide) (by decide) g7 ?_
        refine V_icmp_lt 67 dX6_weakestFor_40 (by decide) (hx _ _) (hx _ _) ⟨fun c8 => ?_, fun c8 => ?_⟩
        · have h := h.1 c8
          refine V_iinc_4 (a4 := uu) dX6_weakestFor_67 rfl ?_
          refine V_goto 5 dX6_weakestFor_70 (by decide) ?_
          obtain ⟨g9, h⟩ := h
          exact ih _ _ _ _ r1 r2 r3 g9 h
        · have h := h.2 c8
          refine V_iload_3 dX6_weakestFor_43 ?_
          refine V_iconst dX6_weakestFor_44 ?_
          refine V_icmp_eq 64 dX6_weakestFor_45 (by decide) r3 (rgL rfl) ⟨fun c10 => ?_, fun c10 => ?_⟩
          · have h := h.1 c10
            refine V_iload_4 dX6_weakestFor_64 ?_
            refine V_istore_3 dX6_weakestFor_66 rfl rfl ?_
            refine V_iinc_4 (a4 := uu) dX6_weakestFor_67 rfl ?_
            refine V_goto 5 dX6_weakestFor_70 (by decide) ?_
            obtain ⟨g11, h⟩ := h
            exact ih _ _ _ _ r1 r2 r4 g11 h
          · have h := h.2 c10
            refine V_aload_0 dX6_weakestFor_48 ?_
            refine V_gR dX6_weakestFor_49 fl_Matching_9 ly_68 (by decide) wr_68_1 ?_
            refine V_iload_4 dX6_weakestFor_52 ?_
            obtain ⟨g12, h⟩ := h
            refine V_aI dX6_weakestFor_54 ly_69 (by decide) (by decide) g12 ?_
            refine V_aload_0 dX6_weakestFor_55 ?_
            refine V_gR dX6_weakestFor_56 fl_Matching_9 ly_68 (by decide) wr_68_1 ?_
            refine V_iload_3 dX6_weakestFor_59 ?_
            obtain ⟨g13, h⟩ := h
            refine V_aI dX6_weakestFor_60 ly_69 (by decide) (by decide) g13 ?_
            refine V_icmp_ge 67 dX6_weakestFor_61 (by decide) (hx _ _) (hx _ _) ⟨fun c14 => ?_, fun c14 => ?_⟩
            · have h := h.1 c14
              refine V_iinc_4 (a4 := uu) dX6_weakestFor_67 rfl ?_
              refine V_goto 5 dX6_weakestFor_70 (by decide) ?_
              obtain ⟨g15, h⟩ := h
              exact ih _ _ _ _ r1 r2 r3 g15 h
            · have h := h.2 c14
              refine V_iload_4 dX6_weakestFor_64 ?_
              refine V_istore_3 dX6_weakestFor_66 rfl rfl ?_
              refine V_iinc_4 (a4 := uu) dX6_weakestFor_67 rfl ?_
              refine V_goto 5 dX6_weakestFor_70 (by decide) ?_
              obtain ⟨g16, h⟩ := h
              exact ih _ _ _ _ r1 r2 r4 g16 h
set_option maxRecDepth 100000 in
theorem w_X6_weakestFor {Γ : GE} {x : XM} (hx : WX x) {v1 v2 : Int} {q : Int → Prop} (r1 : Rg v1) (r2 : Rg v2) (h : M_X6_weakestFor x v1 v2 q) : CV Γ 1 NF NF D_X6_weakestFor [.ref (gB Γ + 68), vI v1, vI v2] (mk Γ x) (QI Γ x q) := by
  refine CV.of rfl (cat_all rfl) (Nat.le_of_ble_eq_true rfl) ?_
  show V Γ 1 NF NF D_X6_weakestFor (QI Γ x q) 0 [.ref (gB Γ + 68), vI v1, vI v2, uu, uu] [] NF (mk Γ x)
  unfold M_X6_weakestFor at h
  refine V_iconst dX6_weakestFor_0 ?_
  refine V_istore_3 dX6_weakestFor_1 rfl rfl ?_
  refine V_iconst dX6_weakestFor_2 ?_
  refine V_istore_4 dX6_weakestFor_3 rfl rfl ?_
  obtain ⟨m9, h⟩ := h
  exact w_X6_weakestFor_5 hx m9 _ _ _ _ r1 r2 (rgL rfl) (rgL rfl) h
def M_X6_bestWorth_11 (q : Int → Prop) (x : XM) : Nat → Int → Int → Int → Int → Prop
  | 0, _, _, _, _ => False
  | n + 1, v3, v4, v5, v6 =>
  ((5 ≤ v6 → q v3) ∧ (¬ (5 ≤ v6) → ((v5 = 0 → q v3) ∧ (¬ v5 = 0 → M_X6_leastNeed x v5  (fun z3 => M_X6_weakestFor x z3 v4  (fun z4 => ((¬ z4 = (-1) → (0 ≤ z4 ∧ z4 < 12) ∧ (Rg (v3 + (1000 - (x 69 (z4.toNat))))) ∧ (Rg (v6 + 1)) ∧ (M_X6_bestWorth_11 q x n) (v3 + (1000 - (x 69 (z4.toNat)))) (jand v4 (jxor (jshl 1 z4) (-1))) (jand v5 (jxor (jshl 1 z3) (-1))) (v6 + 1)) ∧ (z4 = (-1) → q v3))))))))
def M_X6_bestWorth (x : XM) (v1 : Int) (v2 : Int) (q : Int → Prop) : Prop :=
  ∃ m : Nat, M_X6_bestWorth_11 q x m 0 v1 v2 0
set_option maxRecDepth 100000 in
theorem w_X6_bestWorth_11 {Γ : GE} {q : Int → Prop} {x : XM} (hx : WX x) : ∀ (n : Nat) (v3 : Int) (v4 : Int) (v5 : Int) (v6 : Int) , Rg v3 → Rg v4 → Rg v5 → Rg v6 → M_X6_bestWorth_11 q x n v3 v4 v5 v6 → V Γ 2 NF NF D_X6_bestWorth (QI Γ x q) 11 [.ref (gB Γ + 68), uu, uu, vI v3, vI v4, vI v5, vI v6, uu, uu] [] NF (mk Γ x) := by
  intro n
  induction n with
  | zero =>
    intro v3 v4 v5 v6 r3 r4 r5 r6 h
    rw [M_X6_bestWorth_11.eq_1] at h
    exact h.elim
  | succ n ih =>
    intro v3 v4 v5 v6 r3 r4 r5 r6 h
    rw [M_X6_bestWorth_11.eq_2] at h
    refine V_iload_6 dX6_bestWorth_11 ?_
    refine V_iconst dX6_bestWorth_13 ?_
    refine V_icmp_ge 90 dX6_bestWorth_14 (by decide) r6 (rgL rfl) ⟨fun c1 => ?_, fun c1 => ?_⟩
    · have h := h.1 c1
      refine V_iload_3 dX6_bestWorth_90 ?_
      exact V_ireturn dX6_bestWorth_91 rfl ⟨rfl, _, rfl, r3, h⟩
    · have h := h.2 c1
      refine V_iload_5 dX6_bestWorth_17 ?_
      refine V_if_eq 90 dX6_bestWorth_19 (by decide) r5 ⟨fun c2 => ?_, fun c2 => ?_⟩
      · have h := h.1 c2
        refine V_iload_3 dX6_bestWorth_90 ?_
        exact V_ireturn dX6_bestWorth_91 rfl ⟨rfl, _, rfl, r3, h⟩
      · have h := h.2 c2
        refine V_aload_0 dX6_bestWorth_22 ?_
        refine V_iload_5 dX6_bestWorth_23 ?_
        refine V_cVI1 (My := D_X6_leastNeed) dX6_bestWorth_25 ml_Matching_62 ce_X6_leastNeed ly_68 (by decide) cl_6 (by decide) (Nat.le_refl _) (Nat.le_refl _) (by decide) (sumL rfl) (w_X6_leastNeed hx r5 h) (fun z3 hz3 h => ?_)
        refine V_istore_7 dX6_bestWorth_28 rfl rfl ?_
        refine V_aload_0 dX6_bestWorth_30 ?_
        refine V_iload_7 dX6_bestWorth_31 ?_
        refine V_iload_4 dX6_bestWorth_33 ?_
        refine V_cVI2 (My := D_X6_weakestFor) dX6_bestWorth_35 ml_Matching_65 ce_X6_weakestFor ly_68 (by decide) cl_6 (by decide) (Nat.le_refl _) (Nat.le_refl _) (by decide) (sumL rfl) (w_X6_weakestFor hx hz3 r4 h) (fun z4 hz4 h => ?_)
        refine V_istore_8 dX6_bestWorth_38 rfl rfl ?_
        refine V_iload_8 dX6_bestWorth_40 ?_
        refine V_iconst dX6_bestWorth_42 ?_
        refine V_icmp_ne 48 dX6_bestWorth_43 (by decide) hz4 (rgL rfl) ⟨fun c5 => ?_, fun c5 => ?_⟩
        · have h := h.1 c5
          refine V_iload_5 dX6_bestWorth_48 ?_
          refine V_iconst dX6_bestWorth_50 ?_
          refine V_iload_7 dX6_bestWorth_51 ?_
          refine V_ishl dX6_bestWorth_53 ?_
          refine V_iconst dX6_bestWorth_54 ?_
          refine V_ixor dX6_bestWorth_55 ?_
          refine V_iand dX6_bestWorth_56 ?_
          refine V_istore_5 dX6_bestWorth_57 rfl rfl ?_
          refine V_iload_4 dX6_bestWorth_59 ?_
          refine V_iconst dX6_bestWorth_61 ?_
          refine V_iload_8 dX6_bestWorth_62 ?_
          refine V_ishl dX6_bestWorth_64 ?_
          refine V_iconst dX6_bestWorth_65 ?_
          refine V_ixor dX6_bestWorth_66 ?_
          refine V_iand dX6_bestWorth_67 ?_
          refine V_istore_4 dX6_bestWorth_68 rfl rfl ?_
          refine V_iload_3 dX6_bestWorth_70 ?_
          refine V_sipush dX6_bestWorth_71 (by decide) ?_
          refine V_aload_0 dX6_bestWorth_74 ?_
          refine V_gR dX6_bestWorth_75 fl_Matching_9 ly_68 (by decide) wr_68_1 ?_
          refine V_iload_8 dX6_bestWorth_78 ?_
          obtain ⟨g6, h⟩ := h
          refine V_aI dX6_bestWorth_80 ly_69 (by decide) (by decide) g6 ?_
          refine V_isub dX6_bestWorth_81 ?_
          refine V_iadd dX6_bestWorth_82 ?_
          refine V_istore_3 dX6_bestWorth_83 rfl rfl ?_
          refine V_iinc_6 (a6 := uu) dX6_bestWorth_84 rfl ?_
          refine V_goto 11 dX6_bestWorth_87 (by decide) ?_
          obtain ⟨g7, h⟩ := h
          obtain ⟨g8, h⟩ := h
          refine V_fg_7 ?_
          refine V_fg_8 ?_
          exact ih _ _ _ _ g7 (Rg.of _) (Rg.of _) g8 h
        · have h := h.2 c5
          refine V_iload_3 dX6_bestWorth_46 ?_
          exact V_ireturn dX6_bestWorth_47 rfl ⟨rfl, _, rfl, r3, h⟩
set_option maxRecDepth 100000 in
theorem w_X6_bestWorth {Γ : GE} {x : XM} (hx : WX x) {v1 v2 : Int} {q : Int → Prop} (r1 : Rg v1) (r2 : Rg v2) (h : M_X6_bestWorth x v1 v2 q) : CV Γ 2 NF NF D_X6_bestWorth [.ref (gB Γ + 68), vI v1, vI v2] (mk Γ x) (QI Γ x q) := by
  refine CV.of rfl (cat_all rfl) (Nat.le_of_ble_eq_true rfl) ?_
  show V Γ 2 NF NF D_X6_bestWorth (QI Γ x q) 0 [.ref (gB Γ + 68), vI v1, vI v2, uu, uu, uu, uu, uu, uu] [] NF (mk Γ x)
  unfold M_X6_bestWorth at h
  refine V_iconst dX6_bestWorth_0 ?_
  refine V_istore_3 dX6_bestWorth_1 rfl rfl ?_
  refine V_iload_1 dX6_bestWorth_2 ?_
  refine V_istore_4 dX6_bestWorth_3 rfl rfl ?_
  refine V_iload_2 dX6_bestWorth_5 ?_
  refine V_istore_5 dX6_bestWorth_6 rfl rfl ?_
  refine V_iconst dX6_bestWorth_8 ?_
  refine V_istore_6 dX6_bestWorth_9 rfl rfl ?_
  refine V_fg_1 ?_
  refine V_fg_2 ?_
  obtain ⟨m9, h⟩ := h
  exact w_X6_bestWorth_11 hx m9 _ _ _ _ (rgL rfl) r1 r2 (rgL rfl) h
def M_X6_firstChoice_3 (q : Int → Prop) (x : XM) : Nat → Int → Int → Int → Int → Int → Prop
  | 0, _, _, _, _, _ => False
  | n + 1, v1, v2, v3, v4, v5 =>
  M_X0_count x 1  (fun z1 => ((z1 ≤ v5 → q (-1)) ∧ (¬ (z1 ≤ v5) → M_X10_has x v2 v5  (fun z3 => ((z3 = 0 → (Rg (v5 + 1)) ∧ (M_X6_firstChoice_3 q x n) v1 v2 v3 v4 (v5 + 1)) ∧ (¬ z3 = 0 → (0 ≤ v5 ∧ v5 < 12) ∧ (0 ≤ v1 ∧ v1 < 5) ∧ (((x 69 (v5.toNat)) < (x 70 (v1.toNat)) → (Rg (v5 + 1)) ∧ (M_X6_firstChoice_3 q x n) v1 v2 v3 v4 (v5 + 1)) ∧ (¬ ((x 69 (v5.toNat)) < (x 70 (v1.toNat))) → (0 ≤ v5 ∧ v5 < 12) ∧ M_X6_bestWorth x (jand v2 (jxor (jshl 1 v5) (-1))) v3  (fun z11 => (Rg ((1000 - (x 69 (v5.toNat))) + z11)) ∧ ((¬ ((1000 - (x 69 (v5.toNat))) + z11) = v4 → (Rg (v5 + 1)) ∧ (M_X6_firstChoice_3 q x n) v1 v2 v3 v4 (v5 + 1)) ∧ (((1000 - (x 69 (v5.toNat))) + z11) = v4 → q v5)))))))))))
def M_X6_firstChoice (x : XM) (v1 : Int) (v2 : Int) (v3 : Int) (v4 : Int) (q : Int → Prop) : Prop :=
  ∃ m : Nat, M_X6_firstChoice_3 q x m v1 v2 v3 v4 0
set_option maxRecDepth 100000 in
theorem w_X6_firstChoice_3 {Γ : GE} {q : Int → Prop} {x : XM} (hx : WX x) : ∀ (n : Nat) (v1 : Int) (v2 : Int) (v3 : Int) (v4 : Int) (v5 : Int) , Rg v1 → Rg v2 → Rg v3 → Rg v4 → Rg v5 → M_X6_firstChoice_3 q x n v1 v2 v3 v4 v5 → V Γ 3 NF NF D_X6_firstChoice (QI Γ x q) 3 [.ref (gB Γ + 68), vI v1, vI v2, vI v3, vI v4, vI v5] [] NF (mk Γ x) := by
  intro n
  induction n with
  | zero =>
    intro v1 v2 v3 v4 v5 r1 r2 r3 r4 r5 h
    rw [M_X6_firstChoice_3.eq_1] at h
    exact h.elim
  | succ n ih =>
    intro v1 v2 v3 v4 v5 r1 r2 r3 r4 r5 h
    rw [M_X6_firstChoice_3.eq_2] at h
    refine V_iload_5 dX6_firstChoice_3 ?_
    refine V_aload_0 dX6_firstChoice_5 ?_
    refine V_gR dX6_firstChoice_6 fl_Matching_21 ly_68 (by decide) wr_68_0 ?_
    refine V_iconst dX6_firstChoice_9 ?_
    refine V_cVI1 (My := D_X0_count) dX6_firstChoice_10 ml_Matching_50 ce_X0_count ly_3 (by decide) cl_0 (by decide) (Nat.le_refl _) (Nat.le_refl _) (by decide) (sumL rfl) (w_X0_count hx (rgL rfl) h) (fun z1 hz1 h => ?_)
    refine V_icmp_ge 80 dX6_firstChoice_13 (by decide) r5 hz1 ⟨fun c2 => ?_, fun c2 => ?_⟩
    · have h := h.1 c2
      refine V_iconst dX6_firstChoice_80 ?_
      exact V_ireturn dX6_firstChoice_81 rfl ⟨rfl, _, rfl, (rgL rfl), h⟩
    · have h := h.2 c2
      refine V_iload_2 dX6_firstChoice_16 ?_
      refine V_iload_5 dX6_firstChoice_17 ?_
      refine V_cNI2 (My := D_X10_has) dX6_firstChoice_19 (by decide) ce_X10_has (Nat.le_refl _) (Nat.le_refl _) (by decide) (sumL rfl) (w_X10_has hx r2 r5 h) (fun z3 hz3 h => ?_)
      refine V_if_eq 74 dX6_firstChoice_22 (by decide) hz3 ⟨fun c4 => ?_, fun c4 => ?_⟩
      · have h := h.1 c4
        refine V_iinc_5 (a5 := uu) dX6_firstChoice_74 rfl ?_
        refine V_goto 3 dX6_firstChoice_77 (by decide) ?_
        obtain ⟨g5, h⟩ := h
        exact ih _ _ _ _ _ r1 r2 r3 r4 g5 h
      · have h := h.2 c4
        refine V_aload_0 dX6_firstChoice_25 ?_
        refine V_gR dX6_firstChoice_26 fl_Matching_9 ly_68 (by decide) wr_68_1 ?_
        refine V_iload_5 dX6_firstChoice_29 ?_
        obtain ⟨g6, h⟩ := h
        refine V_aI dX6_firstChoice_31 ly_69 (by decide) (by decide) g6 ?_
        refine V_aload_0 dX6_firstChoice_32 ?_
        refine V_gR dX6_firstChoice_33 fl_Matching_15 ly_68 (by decide) wr_68_2 ?_
        refine V_iload_1 dX6_firstChoice_36 ?_
        obtain ⟨g7, h⟩ := h
        refine V_aI dX6_firstChoice_37 ly_70 (by decide) (by decide) g7 ?_
        refine V_icmp_lt 74 dX6_firstChoice_38 (by decide) (hx _ _) (hx _ _) ⟨fun c8 => ?_, fun c8 => ?_⟩
        · have h := h.1 c8
          refine V_iinc_5 (a5 := uu) dX6_firstChoice_74 rfl ?_
          refine V_goto 3 dX6_firstChoice_77 (by decide) ?_
          obtain ⟨g9, h⟩ := h
          exact ih _ _ _ _ _ r1 r2 r3 r4 g9 h
        · have h := h.2 c8
          refine V_sipush dX6_firstChoice_41 (by decide) ?_
          refine V_aload_0 dX6_firstChoice_44 ?_
          refine V_gR dX6_firstChoice_45 fl_Matching_9 ly_68 (by decide) wr_68_1 ?_
          refine V_iload_5 dX6_firstChoice_48 ?_
          obtain ⟨g10, h⟩ := h
          refine V_aI dX6_firstChoice_50 ly_69 (by decide) (by decide) g10 ?_
          refine V_isub dX6_firstChoice_51 ?_
          refine V_aload_0 dX6_firstChoice_52 ?_
          refine V_iload_2 dX6_firstChoice_53 ?_
          refine V_iconst dX6_firstChoice_54 ?_
          refine V_iload_5 dX6_firstChoice_55 ?_
          refine V_ishl dX6_firstChoice_57 ?_
          refine V_iconst dX6_firstChoice_58 ?_
          refine V_ixor dX6_firstChoice_59 ?_
          refine V_iand dX6_firstChoice_60 ?_
          refine V_iload_3 dX6_firstChoice_61 ?_
          refine V_cVI2 (My := D_X6_bestWorth) dX6_firstChoice_62 ml_Matching_38 ce_X6_bestWorth ly_68 (by decide) cl_6 (by decide) (Nat.le_refl _) (Nat.le_refl _) (by decide) (sumL rfl) (w_X6_bestWorth hx (Rg.of _) r3 h) (fun z11 hz11 h => ?_)
          refine V_iadd dX6_firstChoice_65 ?_
          refine V_iload_4 dX6_firstChoice_66 ?_
          obtain ⟨g12, h⟩ := h
          refine V_icmp_ne 74 dX6_firstChoice_68 (by decide) g12 r4 ⟨fun c13 => ?_, fun c13 => ?_⟩
          · have h := h.1 c13
            refine V_iinc_5 (a5 := uu) dX6_firstChoice_74 rfl ?_
            refine V_goto 3 dX6_firstChoice_77 (by decide) ?_
            obtain ⟨g14, h⟩ := h
            exact ih _ _ _ _ _ r1 r2 r3 r4 g14 h
          · have h := h.2 c13
            refine V_iload_5 dX6_firstChoice_71 ?_
            exact V_ireturn dX6_firstChoice_73 rfl ⟨rfl, _, rfl, r5, h⟩
set_option maxRecDepth 100000 in
theorem w_X6_firstChoice {Γ : GE} {x : XM} (hx : WX x) {v1 v2 v3 v4 : Int} {q : Int → Prop} (r1 : Rg v1) (r2 : Rg v2) (r3 : Rg v3) (r4 : Rg v4) (h : M_X6_firstChoice x v1 v2 v3 v4 q) : CV Γ 3 NF NF D_X6_firstChoice [.ref (gB Γ + 68), vI v1, vI v2, vI v3, vI v4] (mk Γ x) (QI Γ x q) := by
  refine CV.of rfl (cat_all rfl) (Nat.le_of_ble_eq_true rfl) ?_
  show V Γ 3 NF NF D_X6_firstChoice (QI Γ x q) 0 [.ref (gB Γ + 68), vI v1, vI v2, vI v3, vI v4, uu] [] NF (mk Γ x)
  unfold M_X6_firstChoice at h
  refine V_iconst dX6_firstChoice_0 ?_
  refine V_istore_5 dX6_firstChoice_1 rfl rfl ?_
  obtain ⟨m9, h⟩ := h
  exact w_X6_firstChoice_3 hx m9 _ _ _ _ _ r1 r2 r3 r4 (rgL rfl) h
def M_X6_solve_29 (q : XM → Prop) : Nat → XM → Int → Int → Int → Int → Prop
  | 0, _, _, _, _, _ => False
  | n + 1, x, v1, v2, v3, v4 =>
  ((5 ≤ v4 → q x) ∧ (¬ (5 ≤ v4) → (0 ≤ v4 ∧ v4 < 5) ∧ (∀ x7 : XM, x7 = uX x 71 (v4.toNat) (-1) → M_X10_has x7 v2 v4  (fun z8 => ((z8 = 0 → (Rg (v4 + 1)) ∧ (M_X6_solve_29 q n) x7 v1 v2 v3 (v4 + 1)) ∧ (¬ z8 = 0 → M_X6_firstChoice x7 v4 v1 (jand v2 (jxor (jshl 1 v4) (-1))) v3  (fun z11 => (0 ≤ v4 ∧ v4 < 5) ∧ (∀ x13 : XM, x13 = uX x7 71 (v4.toNat) z11 → ((z11 = (-1) → (Rg (v4 + 1)) ∧ (M_X6_solve_29 q n) x13 v1 (jand v2 (jxor (jshl 1 v4) (-1))) v3 (v4 + 1)) ∧ (¬ z11 = (-1) → (0 ≤ z11 ∧ z11 < 12) ∧ (Rg (v3 - (1000 - (x13 69 (z11.toNat))))) ∧ (Rg (v4 + 1)) ∧ (M_X6_solve_29 q n) x13 (jand v1 (jxor (jshl 1 z11) (-1))) (jand v2 (jxor (jshl 1 v4) (-1))) (v3 - (1000 - (x13 69 (z11.toNat)))) (v4 + 1)))))))))))
def M_X6_solve (x : XM) (q : XM → Prop) : Prop :=
  M_X6_readWeights x  (fun x1 => M_X0_at x1 6  (fun z2 => M_X6_openNeeds x1  (fun z3 => M_X6_bestWorth x1 z2 z3  (fun z4 => ∃ m : Nat, M_X6_solve_29 q m x1 z2 z3 z4 0))))
set_option maxRecDepth 100000 in
theorem w_X6_solve_29 {Γ : GE} {q : XM → Prop} : ∀ (n : Nat) (x : XM) (v1 : Int) (v2 : Int) (v3 : Int) (v4 : Int) , WX x → Rg v1 → Rg v2 → Rg v3 → Rg v4 → M_X6_solve_29 q n x v1 v2 v3 v4 → V Γ 5 NF NF D_X6_solve (QU Γ q) 29 [.ref (gB Γ + 68), vI v1, vI v2, vI v3, vI v4, uu] [] NF (mk Γ x) := by
  intro n
  induction n with
  | zero =>
    intro x v1 v2 v3 v4 hx r1 r2 r3 r4 h
    rw [M_X6_solve_29.eq_1] at h
    exact h.elim
  | succ n ih =>
    intro x v1 v2 v3 v4 hx r1 r2 r3 r4 h
    rw [M_X6_solve_29.eq_2] at h
    refine V_iload_4 dX6_solve_29 ?_
    refine V_iconst dX6_solve_31 ?_
    refine V_icmp_ge 116 dX6_solve_32 (by decide) r4 (rgL rfl) ⟨fun c5 => ?_, fun c5 => ?_⟩
    · have h := h.1 c5
      exact V_vreturn dX6_solve_116 rfl ⟨_, rfl, hx, rfl, h⟩
    · have h := h.2 c5
      refine V_aload_0 dX6_solve_35 ?_
      refine V_gR dX6_solve_36 fl_Matching_18 ly_68 (by decide) wr_68_3 ?_
      refine V_iload_4 dX6_solve_39 ?_
      refine V_iconst dX6_solve_41 ?_
      obtain ⟨g6, h⟩ := h
      refine V_sIe dX6_solve_42 ly_71 (by decide) (by decide) g6 (fun x7 ex7 => ?_)
      have h := h x7 ex7
      have hx7 := hx.upE (rgL rfl) ex7
      refine V_iload_2 dX6_solve_43 ?_
      refine V_iload_4 dX6_solve_44 ?_
      refine V_cNI2 (My := D_X10_has) dX6_solve_46 (by decide) ce_X10_has (Nat.le_refl _) (Nat.le_refl _) (by decide) (sumL rfl) (w_X10_has hx7 r2 r4 h) (fun z8 hz8 h => ?_)
      refine V_if_eq 110 dX6_solve_49 (by decide) hz8 ⟨fun c9 => ?_, fun c9 => ?_⟩
      · have h := h.1 c9
        refine V_iinc_4 (a4 := uu) dX6_solve_110 rfl ?_
        refine V_goto 29 dX6_solve_113 (by decide) ?_
        obtain ⟨g10, h⟩ := h
        exact ih _ _ _ _ _ hx7 r1 r2 r3 g10 h
      · have h := h.2 c9
        refine V_iload_2 dX6_solve_52 ?_
        refine V_iconst dX6_solve_53 ?_
        refine V_iload_4 dX6_solve_54 ?_
        refine V_ishl dX6_solve_56 ?_
        refine V_iconst dX6_solve_57 ?_
        refine V_ixor dX6_solve_58 ?_
        refine V_iand dX6_solve_59 ?_
        refine V_istore_2 dX6_solve_60 rfl rfl ?_
        refine V_aload_0 dX6_solve_61 ?_
        refine V_iload_4 dX6_solve_62 ?_
        refine V_iload_1 dX6_solve_64 ?_
        refine V_iload_2 dX6_solve_65 ?_
        refine V_iload_3 dX6_solve_66 ?_
        refine V_cVI4 (My := D_X6_firstChoice) dX6_solve_67 ml_Matching_46 ce_X6_firstChoice ly_68 (by decide) cl_6 (by decide) (Nat.le_refl _) (Nat.le_refl _) (by decide) (sumL rfl) (w_X6_firstChoice hx7 r4 r1 (Rg.of _) r3 h) (fun z11 hz11 h => ?_)
        refine V_istore_5 dX6_solve_70 rfl rfl ?_
        refine V_aload_0 dX6_solve_72 ?_
        refine V_gR dX6_solve_73 fl_Matching_18 ly_68 (by decide) wr_68_3 ?_
        refine V_iload_4 dX6_solve_76 ?_
        refine V_iload_5 dX6_solve_78 ?_
        obtain ⟨g12, h⟩ := h
        refine V_sIe dX6_solve_80 ly_71 (by decide) (by decide) g12 (fun x13 ex13 => ?_)
        have h := h x13 ex13
        have hx13 := hx7.upE hz11 ex13
        refine V_iload_5 dX6_solve_81 ?_
        refine V_iconst dX6_solve_83 ?_
        refine V_icmp_eq 110 dX6_solve_84 (by decide) hz11 (rgL rfl) ⟨fun c14 => ?_, fun c14 => ?_⟩
        · have h := h.1 c14
          refine V_iinc_4 (a4 := uu) dX6_solve_110 rfl ?_
          refine V_goto 29 dX6_solve_113 (by decide) ?_
          obtain ⟨g15, h⟩ := h
          refine V_fg_5 ?_
          exact ih _ _ _ _ _ hx13 r1 (Rg.of _) r3 g15 h
        · have h := h.2 c14
          refine V_iload_1 dX6_solve_87 ?_
          refine V_iconst dX6_solve_88 ?_
          refine V_iload_5 dX6_solve_89 ?_
          refine V_ishl dX6_solve_91 ?_
          refine V_iconst dX6_solve_92 ?_
          refine V_ixor dX6_solve_93 ?_
          refine V_iand dX6_solve_94 ?_
          refine V_istore_1 dX6_solve_95 rfl rfl ?_
          refine V_iload_3 dX6_solve_96 ?_
          refine V_sipush dX6_solve_97 (by decide) ?_
          refine V_aload_0 dX6_solve_100 ?_
          refine V_gR dX6_solve_101 fl_Matching_9 ly_68 (by decide) wr_68_1 ?_
          refine V_iload_5 dX6_solve_104 ?_
          obtain ⟨g16, h⟩ := h
          refine V_aI dX6_solve_106 ly_69 (by decide) (by decide) g16 ?_
          refine V_isub dX6_solve_107 ?_
          refine V_isub dX6_solve_108 ?_
          refine V_istore_3 dX6_solve_109 rfl rfl ?_
          refine V_iinc_4 (a4 := uu) dX6_solve_110 rfl ?_
          refine V_goto 29 dX6_solve_113 (by decide) ?_
          obtain ⟨g17, h⟩ := h
          obtain ⟨g18, h⟩ := h
          refine V_fg_5 ?_
          exact ih _ _ _ _ _ hx13 (Rg.of _) (Rg.of _) g17 g18 h
set_option maxRecDepth 100000 in
theorem w_X6_solve {Γ : GE} {x : XM} (hx : WX x) {q : XM → Prop} (h : M_X6_solve x q) : CV Γ 5 NF NF D_X6_solve [.ref (gB Γ + 68)] (mk Γ x) (QU Γ q) := by
  refine CV.of rfl (cat_all rfl) (Nat.le_of_ble_eq_true rfl) ?_
  show V Γ 5 NF NF D_X6_solve (QU Γ q) 0 [.ref (gB Γ + 68), uu, uu, uu, uu, uu] [] NF (mk Γ x)
  unfold M_X6_solve at h
  refine V_aload_0 dX6_solve_0 ?_
  refine V_cVU0 (My := D_X6_readWeights) dX6_solve_1 ml_Matching_25 ce_X6_readWeights ly_68 (by decide) cl_6 (by decide) (Nat.le_refl _) (Nat.le_refl _) (by decide) (sumL rfl) (w_X6_readWeights hx h) (fun x1 hx1 h => ?_)
  refine V_aload_0 dX6_solve_4 ?_
  refine V_gR dX6_solve_5 fl_Matching_21 ly_68 (by decide) wr_68_0 ?_
  refine V_bipush dX6_solve_8 (by decide) ?_
  refine V_cVI1 (My := D_X0_at) dX6_solve_10 ml_Matching_28 ce_X0_at ly_3 (by decide) cl_0 (by decide) (Nat.le_refl _) (Nat.le_refl _) (by decide) (sumL rfl) (w_X0_at hx1 (rgL rfl) h) (fun z2 hz2 h => ?_)
  refine V_istore_1 dX6_solve_13 rfl rfl ?_
  refine V_aload_0 dX6_solve_14 ?_
  refine V_cVI0 (My := D_X6_openNeeds) dX6_solve_15 ml_Matching_34 ce_X6_openNeeds ly_68 (by decide) cl_6 (by decide) (Nat.le_refl _) (Nat.le_refl _) (by decide) (sumL rfl) (w_X6_openNeeds hx1 h) (fun z3 hz3 h => ?_)
  refine V_istore_2 dX6_solve_18 rfl rfl ?_
  refine V_aload_0 dX6_solve_19 ?_
  refine V_iload_1 dX6_solve_20 ?_
  refine V_iload_2 dX6_solve_21 ?_
  refine V_cVI2 (My := D_X6_bestWorth) dX6_solve_22 ml_Matching_38 ce_X6_bestWorth ly_68 (by decide) cl_6 (by decide) (Nat.le_refl _) (Nat.le_refl _) (by decide) (sumL rfl) (w_X6_bestWorth hx1 hz2 hz3 h) (fun z4 hz4 h => ?_)
  refine V_istore_3 dX6_solve_25 rfl rfl ?_
  refine V_iconst dX6_solve_26 ?_
  refine V_istore_4 dX6_solve_27 rfl rfl ?_
  obtain ⟨m9, h⟩ := h
  exact w_X6_solve_29 m9 _ _ _ _ _ hx1 hz2 hz3 hz4 (rgL rfl) h
def M_X6_howMany_4 (q : Int → Prop) (x : XM) : Nat → Int → Int → Prop
  | 0, _, _ => False
  | n + 1, v1, v2 =>
  ((5 ≤ v2 → q v1) ∧ (¬ (5 ≤ v2) → (0 ≤ v2 ∧ v2 < 5) ∧ ((¬ (x 71 (v2.toNat)) = (-1) → (Rg (v1 + 1)) ∧ (Rg (v2 + 1)) ∧ (M_X6_howMany_4 q x n) (v1 + 1) (v2 + 1)) ∧ ((x 71 (v2.toNat)) = (-1) → (Rg (v1 + 0)) ∧ (Rg (v2 + 1)) ∧ (M_X6_howMany_4 q x n) (v1 + 0) (v2 + 1)))))
def M_X6_howMany (x : XM) (q : Int → Prop) : Prop :=
  ∃ m : Nat, M_X6_howMany_4 q x m 0 0
set_option maxRecDepth 100000 in
theorem w_X6_howMany_4 {Γ : GE} {q : Int → Prop} {x : XM} (hx : WX x) : ∀ (n : Nat) (v1 : Int) (v2 : Int) , Rg v1 → Rg v2 → M_X6_howMany_4 q x n v1 v2 → V Γ 0 NF NF D_X6_howMany (QI Γ x q) 4 [.ref (gB Γ + 68), vI v1, vI v2] [] NF (mk Γ x) := by
  intro n
  induction n with
  | zero =>
    intro v1 v2 r1 r2 h
    rw [M_X6_howMany_4.eq_1] at h
    exact h.elim
  | succ n ih =>
    intro v1 v2 r1 r2 h
    rw [M_X6_howMany_4.eq_2] at h
    refine V_iload_2 dX6_howMany_4 ?_
    refine V_iconst dX6_howMany_5 ?_
    refine V_icmp_ge 33 dX6_howMany_6 (by decide) r2 (rgL rfl) ⟨fun c1 => ?_, fun c1 => ?_⟩
    · have h := h.1 c1
      refine V_iload_1 dX6_howMany_33 ?_
      exact V_ireturn dX6_howMany_34 rfl ⟨rfl, _, rfl, r1, h⟩
    · have h := h.2 c1
      refine V_iload_1 dX6_howMany_9 ?_
      refine V_aload_0 dX6_howMany_10 ?_
      refine V_gR dX6_howMany_11 fl_Matching_18 ly_68 (by decide) wr_68_3 ?_
      refine V_iload_2 dX6_howMany_14 ?_
      obtain ⟨g2, h⟩ := h
      refine V_aI dX6_howMany_15 ly_71 (by decide) (by decide) g2 ?_
      refine V_iconst dX6_howMany_16 ?_
      refine V_icmp_ne 24 dX6_howMany_17 (by decide) (hx _ _) (rgL rfl) ⟨fun c3 => ?_, fun c3 => ?_⟩
      · have h := h.1 c3
        refine V_iconst dX6_howMany_24 ?_
        refine V_iadd dX6_howMany_25 ?_
        refine V_istore_1 dX6_howMany_26 rfl rfl ?_
        refine V_iinc_2 (a2 := uu) dX6_howMany_27 rfl ?_
        refine V_goto 4 dX6_howMany_30 (by decide) ?_
        obtain ⟨g4, h⟩ := h
        obtain ⟨g5, h⟩ := h
        exact ih _ _ g4 g5 h
      · have h := h.2 c3
        refine V_iconst dX6_howMany_20 ?_
        refine V_goto 25 dX6_howMany_21 (by decide) ?_
        refine V_iadd dX6_howMany_25 ?_
        refine V_istore_1 dX6_howMany_26 rfl rfl ?_
        refine V_iinc_2 (a2 := uu) dX6_howMany_27 rfl ?_
        refine V_goto 4 dX6_howMany_30 (by decide) ?_
        obtain ⟨g6, h⟩ := h
        obtain ⟨g7, h⟩ := h
        exact ih _ _ g6 g7 h
set_option maxRecDepth 100000 in
theorem w_X6_howMany {Γ : GE} {x : XM} (hx : WX x) {q : Int → Prop} (h : M_X6_howMany x q) : CV Γ 0 NF NF D_X6_howMany [.ref (gB Γ + 68)] (mk Γ x) (QI Γ x q) := by
  refine CV.of rfl (cat_all rfl) (Nat.le_of_ble_eq_true rfl) ?_
  show V Γ 0 NF NF D_X6_howMany (QI Γ x q) 0 [.ref (gB Γ + 68), uu, uu] [] NF (mk Γ x)
  unfold M_X6_howMany at h
  refine V_iconst dX6_howMany_0 ?_
  refine V_istore_1 dX6_howMany_1 rfl rfl ?_
  refine V_iconst dX6_howMany_2 ?_
  refine V_istore_2 dX6_howMany_3 rfl rfl ?_
  obtain ⟨m9, h⟩ := h
  exact w_X6_howMany_4 hx m9 _ _ (rgL rfl) (rgL rfl) h
def M_X6_howMuch_4 (q : Int → Prop) (x : XM) : Nat → Int → Int → Prop
  | 0, _, _ => False
  | n + 1, v1, v2 =>
  ((5 ≤ v2 → q v1) ∧ (¬ (5 ≤ v2) → (0 ≤ v2 ∧ v2 < 5) ∧ ((¬ (x 71 (v2.toNat)) = (-1) → (0 ≤ v2 ∧ v2 < 5) ∧ (0 ≤ (x 71 (v2.toNat)) ∧ (x 71 (v2.toNat)) < 12) ∧ (Rg (v1 + (x 69 (((x 71 (v2.toNat))).toNat)))) ∧ (Rg (v2 + 1)) ∧ (M_X6_howMuch_4 q x n) (v1 + (x 69 (((x 71 (v2.toNat))).toNat))) (v2 + 1)) ∧ ((x 71 (v2.toNat)) = (-1) → (Rg (v1 + 0)) ∧ (Rg (v2 + 1)) ∧ (M_X6_howMuch_4 q x n) (v1 + 0) (v2 + 1)))))
def M_X6_howMuch (x : XM) (q : Int → Prop) : Prop :=
  ∃ m : Nat, M_X6_howMuch_4 q x m 0 0
set_option maxRecDepth 100000 in
theorem w_X6_howMuch_4 {Γ : GE} {q : Int → Prop} {x : XM} (hx : WX x) : ∀ (n : Nat) (v1 : Int) (v2 : Int) , Rg v1 → Rg v2 → M_X6_howMuch_4 q x n v1 v2 → V Γ 0 NF NF D_X6_howMuch (QI Γ x q) 4 [.ref (gB Γ + 68), vI v1, vI v2] [] NF (mk Γ x) := by
  intro n
  induction n with
  | zero =>
    intro v1 v2 r1 r2 h
    rw [M_X6_howMuch_4.eq_1] at h
    exact h.elim
  | succ n ih =>
    intro v1 v2 r1 r2 h
    rw [M_X6_howMuch_4.eq_2] at h
    refine V_iload_2 dX6_howMuch_4 ?_
    refine V_iconst dX6_howMuch_5 ?_
    refine V_icmp_ge 43 dX6_howMuch_6 (by decide) r2 (rgL rfl) ⟨fun c1 => ?_, fun c1 => ?_⟩
    · have h := h.1 c1
      refine V_iload_1 dX6_howMuch_43 ?_
      exact V_ireturn dX6_howMuch_44 rfl ⟨rfl, _, rfl, r1, h⟩
    · have h := h.2 c1
      refine V_iload_1 dX6_howMuch_9 ?_
      refine V_aload_0 dX6_howMuch_10 ?_
      refine V_gR dX6_howMuch_11 fl_Matching_18 ly_68 (by decide) wr_68_3 ?_
      refine V_iload_2 dX6_howMuch_14 ?_
      obtain ⟨g2, h⟩ := h
      refine V_aI dX6_howMuch_15 ly_71 (by decide) (by decide) g2 ?_
      refine V_iconst dX6_howMuch_16 ?_
      refine V_icmp_ne 24 dX6_howMuch_17 (by decide) (hx _ _) (rgL rfl) ⟨fun c3 => ?_, fun c3 => ?_⟩
      · have h := h.1 c3
        refine V_aload_0 dX6_howMuch_24 ?_
        refine V_gR dX6_howMuch_25 fl_Matching_9 ly_68 (by decide) wr_68_1 ?_
        refine V_aload_0 dX6_howMuch_28 ?_
        refine V_gR dX6_howMuch_29 fl_Matching_18 ly_68 (by decide) wr_68_3 ?_
        refine V_iload_2 dX6_howMuch_32 ?_
        obtain ⟨g4, h⟩ := h
        refine V_aI dX6_howMuch_33 ly_71 (by decide) (by decide) g4 ?_
        obtain ⟨g5, h⟩ := h
        refine V_aI dX6_howMuch_34 ly_69 (by decide) (by decide) g5 ?_
        refine V_iadd dX6_howMuch_35 ?_
        refine V_istore_1 dX6_howMuch_36 rfl rfl ?_
        refine V_iinc_2 (a2 := uu) dX6_howMuch_37 rfl ?_
        refine V_goto 4 dX6_howMuch_40 (by decide) ?_
        obtain ⟨g6, h⟩ := h
        obtain ⟨g7, h⟩ := h
        exact ih _ _ g6 g7 h
      · have h := h.2 c3
        refine V_iconst dX6_howMuch_20 ?_
        refine V_goto 35 dX6_howMuch_21 (by decide) ?_
        refine V_iadd dX6_howMuch_35 ?_
        refine V_istore_1 dX6_howMuch_36 rfl rfl ?_
        refine V_iinc_2 (a2 := uu) dX6_howMuch_37 rfl ?_
        refine V_goto 4 dX6_howMuch_40 (by decide) ?_
        obtain ⟨g8, h⟩ := h
        obtain ⟨g9, h⟩ := h
        exact ih _ _ g8 g9 h
set_option maxRecDepth 100000 in
theorem w_X6_howMuch {Γ : GE} {x : XM} (hx : WX x) {q : Int → Prop} (h : M_X6_howMuch x q) : CV Γ 0 NF NF D_X6_howMuch [.ref (gB Γ + 68)] (mk Γ x) (QI Γ x q) := by
  refine CV.of rfl (cat_all rfl) (Nat.le_of_ble_eq_true rfl) ?_
  show V Γ 0 NF NF D_X6_howMuch (QI Γ x q) 0 [.ref (gB Γ + 68), uu, uu] [] NF (mk Γ x)
  unfold M_X6_howMuch at h
  refine V_iconst dX6_howMuch_0 ?_
  refine V_istore_1 dX6_howMuch_1 rfl rfl ?_
  refine V_iconst dX6_howMuch_2 ?_
  refine V_istore_2 dX6_howMuch_3 rfl rfl ?_
  obtain ⟨m9, h⟩ := h
  exact w_X6_howMuch_4 hx m9 _ _ (rgL rfl) (rgL rfl) h
def M_X10_match_23 (q : Int → XM → Prop) (x : XM) (v1 : Int) : Prop :=
  M_X6_solve x  (fun x2 => ((¬ v1 = (-1) → ((¬ v1 = (-2) → (0 ≤ v1 ∧ v1 < 5) ∧ q (x2 71 (v1.toNat)) x2) ∧ (v1 = (-2) → M_X6_howMuch x2  (fun z6 => q z6 x2)))) ∧ (v1 = (-1) → M_X6_howMany x2  (fun z7 => q z7 x2))))
def M_X10_match (x : XM) (v1 : Int) (q : Int → XM → Prop) : Prop :=
  ((v1 = (-1) → M_X10_match_23 q x v1) ∧ (¬ v1 = (-1) → ((v1 = (-2) → M_X10_match_23 q x v1) ∧ (¬ v1 = (-2) → M_X10_isThere x 4 v1  (fun z9 => ((¬ z9 = 0 → M_X10_match_23 q x v1) ∧ (z9 = 0 → q (-1000000001) x)))))))
set_option maxRecDepth 100000 in
theorem w_X10_match_23 {Γ : GE} {q : Int → XM → Prop} : ∀ (x : XM) (v1 : Int) , WX x → Rg v1 → M_X10_match_23 q x v1 → V Γ 6 NF NF D_X10_match (QE Γ q) 23 [.ref (gB Γ + 0), vI v1] [] NF (mk Γ x) := by
  intro x v1 hx r1 h
  unfold M_X10_match_23 at h
  refine V_aload_0 dX10_match_23 ?_
  refine V_gR dX10_match_24 fl_T_62 ly_0 (by decide) wr_0_7 ?_
  refine V_cVU0 (My := D_X6_solve) dX10_match_27 ml_T_227 ce_X6_solve ly_68 (by decide) cl_6 (by decide) (Nat.le_refl _) (Nat.le_refl _) (by decide) (sumL rfl) (w_X6_solve hx h) (fun x2 hx2 h => ?_)
  refine V_iload_1 dX10_match_30 ?_
  refine V_iconst dX10_match_31 ?_
  refine V_icmp_ne 43 dX10_match_32 (by decide) r1 (rgL rfl) ⟨fun c3 => ?_, fun c3 => ?_⟩
  · have h := h.1 c3
    refine V_iload_1 dX10_match_43 ?_
    refine V_bipush dX10_match_44 (by decide) ?_
    refine V_icmp_ne 59 dX10_match_46 (by decide) r1 (rgL rfl) ⟨fun c4 => ?_, fun c4 => ?_⟩
    · have h := h.1 c4
      refine V_aload_0 dX10_match_59 ?_
      refine V_gR dX10_match_60 fl_T_62 ly_0 (by decide) wr_0_7 ?_
      refine V_gR dX10_match_63 fl_T_236 ly_68 (by decide) wr_68_3 ?_
      refine V_iload_1 dX10_match_66 ?_
      obtain ⟨g5, h⟩ := h
      refine V_aI dX10_match_67 ly_71 (by decide) (by decide) g5 ?_
      exact V_ireturn dX10_match_68 rfl ⟨_, _, rfl, hx2, rfl, (hx2 _ _), h⟩
    · have h := h.2 c4
      refine V_aload_0 dX10_match_49 ?_
      refine V_gR dX10_match_50 fl_T_62 ly_0 (by decide) wr_0_7 ?_
      refine V_cVI0 (My := D_X6_howMuch) dX10_match_53 ml_T_233 ce_X6_howMuch ly_68 (by decide) cl_6 (by decide) (Nat.le_refl _) (Nat.le_refl _) (by decide) (sumL rfl) (w_X6_howMuch hx2 h) (fun z6 hz6 h => ?_)
      refine V_goto 68 dX10_match_56 (by decide) ?_
      exact V_ireturn dX10_match_68 rfl ⟨_, _, rfl, hx2, rfl, hz6, h⟩
  · have h := h.2 c3
    refine V_aload_0 dX10_match_35 ?_
    refine V_gR dX10_match_36 fl_T_62 ly_0 (by decide) wr_0_7 ?_
    refine V_cVI0 (My := D_X6_howMany) dX10_match_39 ml_T_230 ce_X6_howMany ly_68 (by decide) cl_6 (by decide) (Nat.le_refl _) (Nat.le_refl _) (by decide) (sumL rfl) (w_X6_howMany hx2 h) (fun z7 hz7 h => ?_)
    exact V_ireturn dX10_match_42 rfl ⟨_, _, rfl, hx2, rfl, hz7, h⟩
set_option maxRecDepth 100000 in
theorem w_X10_match {Γ : GE} {x : XM} (hx : WX x) {v1 : Int} {q : Int → XM → Prop} (r1 : Rg v1) (h : M_X10_match x v1 q) : CV Γ 6 NF NF D_X10_match [.ref (gB Γ + 0), vI v1] (mk Γ x) (QE Γ q) := by
  refine CV.of rfl (cat_all rfl) (Nat.le_of_ble_eq_true rfl) ?_
  show V Γ 6 NF NF D_X10_match (QE Γ q) 0 [.ref (gB Γ + 0), vI v1] [] NF (mk Γ x)
  unfold M_X10_match at h
  refine V_iload_1 dX10_match_0 ?_
  refine V_iconst dX10_match_1 ?_
  refine V_icmp_eq 23 dX10_match_2 (by decide) r1 (rgL rfl) ⟨fun c1 => ?_, fun c1 => ?_⟩
  · have h := h.1 c1
    exact w_X10_match_23 _ _ hx r1 h
  · have h := h.2 c1
    refine V_iload_1 dX10_match_5 ?_
    refine V_bipush dX10_match_6 (by decide) ?_
    refine V_icmp_eq 23 dX10_match_8 (by decide) r1 (rgL rfl) ⟨fun c8 => ?_, fun c8 => ?_⟩
    · have h := h.1 c8
      exact w_X10_match_23 _ _ hx r1 h
    · have h := h.2 c8
      refine V_aload_0 dX10_match_11 ?_
      refine V_iconst dX10_match_12 ?_
      refine V_iload_1 dX10_match_13 ?_
      refine V_cVI2 (My := D_X10_isThere) dX10_match_14 ml_T_149 ce_X10_isThere ly_0 (by decide) cl_10 (by decide) (Nat.le_refl _) (Nat.le_refl _) (by decide) (sumL rfl) (w_X10_isThere hx (rgL rfl) r1 h) (fun z9 hz9 h => ?_)
      refine V_if_ne 23 dX10_match_17 (by decide) hz9 ⟨fun c10 => ?_, fun c10 => ?_⟩
      · have h := h.1 c10
        exact w_X10_match_23 _ _ hx r1 h
      · have h := h.2 c10
        refine V_ldc dX10_match_20 kc_T_153 ?_
        exact V_ireturn dX10_match_22 rfl ⟨_, _, rfl, hx, rfl, (rgL rfl), h⟩
def M_X11_canSew (x : XM) (v1 : Int) (v2 : Int) (v3 : Int) (q : Int → Prop) : Prop :=
  (0 ≤ v1 ∧ v1 < 31) ∧ ((¬ (x 93 (v1.toNat)) = 0 → q 0) ∧ ((x 93 (v1.toNat)) = 0 → M_X11_has x v3 v1  (fun z3 => ((¬ z3 = 0 → q 0) ∧ (z3 = 0 → M_X11_holds x v1  (fun z5 => (0 ≤ v2 ∧ v2 < 5) ∧ ((z5 < (x 88 (v2.toNat)) → q 0) ∧ (¬ (z5 < (x 88 (v2.toNat))) → q 1))))))))
set_option maxRecDepth 100000 in
theorem w_X11_canSew {Γ : GE} {x : XM} (hx : WX x) {v1 v2 v3 : Int} {q : Int → Prop} (r1 : Rg v1) (r2 : Rg v2) (r3 : Rg v3) (h : M_X11_canSew x v1 v2 v3 q) : CV Γ 2 NF NF D_X11_canSew [.ref (gB Γ + 83), vI v1, vI v2, vI v3] (mk Γ x) (QI Γ x q) := by
  refine CV.of rfl (cat_all rfl) (Nat.le_of_ble_eq_true rfl) ?_
  show V Γ 2 NF NF D_X11_canSew (QI Γ x q) 0 [.ref (gB Γ + 83), vI v1, vI v2, vI v3] [] NF (mk Γ x)
  unfold M_X11_canSew at h
  refine V_aload_0 dX11_canSew_0 ?_
  refine V_gR dX11_canSew_1 fl_R_38 ly_83 (by decide) wr_83_25 ?_
  refine V_iload_1 dX11_canSew_4 ?_
  obtain ⟨g1, h⟩ := h
  refine V_aI dX11_canSew_5 ly_93 (by decide) (by decide) g1 ?_
  refine V_if_ne 35 dX11_canSew_6 (by decide) (hx _ _) ⟨fun c2 => ?_, fun c2 => ?_⟩
  · have h := h.1 c2
    refine V_iconst dX11_canSew_35 ?_
    exact V_zreturn dX11_canSew_36 rfl (Or.inl rfl) ⟨rfl, _, rfl, (rgL rfl), h⟩
  · have h := h.2 c2
    refine V_iload_3 dX11_canSew_9 ?_
    refine V_iload_1 dX11_canSew_10 ?_
    refine V_cSI2 (My := D_X11_has) dX11_canSew_11 ml_R_177 ce_X11_has (Nat.le_refl _) (Nat.le_refl _) (by decide) (sumL rfl) (w_X11_has hx r3 r1 h) (fun z3 hz3 h => ?_)
    refine V_if_ne 35 dX11_canSew_14 (by decide) hz3 ⟨fun c4 => ?_, fun c4 => ?_⟩
    · have h := h.1 c4
      refine V_iconst dX11_canSew_35 ?_
      exact V_zreturn dX11_canSew_36 rfl (Or.inl rfl) ⟨rfl, _, rfl, (rgL rfl), h⟩
    · have h := h.2 c4
      refine V_aload_0 dX11_canSew_17 ?_
      refine V_iload_1 dX11_canSew_18 ?_
      refine V_cVI1 (My := D_X11_holds) dX11_canSew_19 ml_R_180 ce_X11_holds ly_83 (by decide) cl_11 (by decide) (Nat.le_refl _) (Nat.le_refl _) (by decide) (sumL rfl) (w_X11_holds hx r1 h) (fun z5 hz5 h => ?_)
      refine V_aload_0 dX11_canSew_22 ?_
      refine V_gR dX11_canSew_23 fl_R_23 ly_83 (by decide) wr_83_10 ?_
      refine V_iload_2 dX11_canSew_26 ?_
      obtain ⟨g6, h⟩ := h
      refine V_aI dX11_canSew_27 ly_88 (by decide) (by decide) g6 ?_
      refine V_icmp_lt 35 dX11_canSew_28 (by decide) hz5 (hx _ _) ⟨fun c7 => ?_, fun c7 => ?_⟩
      · have h := h.1 c7
        refine V_iconst dX11_canSew_35 ?_
        exact V_zreturn dX11_canSew_36 rfl (Or.inl rfl) ⟨rfl, _, rfl, (rgL rfl), h⟩
      · have h := h.2 c7
        refine V_iconst dX11_canSew_31 ?_
        refine V_goto 36 dX11_canSew_32 (by decide) ?_
        exact V_zreturn dX11_canSew_36 rfl (Or.inr rfl) ⟨rfl, _, rfl, (rgL rfl), h⟩
def M_X11_worthBy (x : XM) (v1 : Int) (v2 : Int) (v3 : Int) (q : Int → Prop) : Prop :=
  M_X11_holds x v1  (fun z1 => (0 ≤ ((4096 * (v2 + 1)) + (jor v3 (jshl 1 v1))) ∧ ((4096 * (v2 + 1)) + (jor v3 (jshl 1 v1))) < 24576) ∧ (Rg ((10000 - z1) + (x 100 ((((4096 * (v2 + 1)) + (jor v3 (jshl 1 v1)))).toNat)))) ∧ q ((10000 - z1) + (x 100 ((((4096 * (v2 + 1)) + (jor v3 (jshl 1 v1)))).toNat))))
set_option maxRecDepth 100000 in
theorem w_X11_worthBy {Γ : GE} {x : XM} (hx : WX x) {v1 v2 v3 : Int} {q : Int → Prop} (r1 : Rg v1) (r2 : Rg v2) (r3 : Rg v3) (h : M_X11_worthBy x v1 v2 v3 q) : CV Γ 2 NF NF D_X11_worthBy [.ref (gB Γ + 83), vI v1, vI v2, vI v3] (mk Γ x) (QI Γ x q) := by
  refine CV.of rfl (cat_all rfl) (Nat.le_of_ble_eq_true rfl) ?_
  show V Γ 2 NF NF D_X11_worthBy (QI Γ x q) 0 [.ref (gB Γ + 83), vI v1, vI v2, vI v3] [] NF (mk Γ x)
  unfold M_X11_worthBy at h
  refine V_sipush dX11_worthBy_0 (by decide) ?_
  refine V_aload_0 dX11_worthBy_3 ?_
  refine V_iload_1 dX11_worthBy_4 ?_
  refine V_cVI1 (My := D_X11_holds) dX11_worthBy_5 ml_R_180 ce_X11_holds ly_83 (by decide) cl_11 (by decide) (Nat.le_refl _) (Nat.le_refl _) (by decide) (sumL rfl) (w_X11_holds hx r1 h) (fun z1 hz1 h => ?_)
  refine V_isub dX11_worthBy_8 ?_
  refine V_aload_0 dX11_worthBy_9 ?_
  refine V_gR dX11_worthBy_10 fl_R_60 ly_83 (by decide) wr_83_35 ?_
  refine V_sipush dX11_worthBy_13 (by decide) ?_
  refine V_iload_2 dX11_worthBy_16 ?_
  refine V_iconst dX11_worthBy_17 ?_
  refine V_iadd dX11_worthBy_18 ?_
  refine V_imul dX11_worthBy_19 ?_
  refine V_iload_3 dX11_worthBy_20 ?_
  refine V_iconst dX11_worthBy_21 ?_
  refine V_iload_1 dX11_worthBy_22 ?_
  refine V_ishl dX11_worthBy_23 ?_
  refine V_ior dX11_worthBy_24 ?_
  refine V_iadd dX11_worthBy_25 ?_
  obtain ⟨g2, h⟩ := h
  refine V_aI dX11_worthBy_26 ly_100 (by decide) (by decide) g2 ?_
  refine V_iadd dX11_worthBy_27 ?_
  obtain ⟨g3, h⟩ := h
  exact V_ireturn dX11_worthBy_28 rfl ⟨rfl, _, rfl, g3, h⟩
def M_X11_matchAll_137 (q : XM → Prop) (K41 : XM → Int → Prop) (K47 : XM → Int → Int → Prop) (x : XM) (v1 : Int) (v2 : Int) (v3 : Int) : Prop :=
  (0 ≤ ((4096 * v1) + v2) ∧ ((4096 * v1) + v2) < 24576) ∧ (∀ x8 : XM, x8 = uX x 100 ((((4096 * v1) + v2)).toNat) v3 → (Rg (v2 + 1)) ∧ K47 x8 v1 (v2 + 1))
def M_X11_matchAll_116 (q : XM → Prop) (K41 : XM → Int → Prop) (K47 : XM → Int → Int → Prop) (K75 : XM → Int → Int → Int → Int → Prop) (x : XM) (v1 : Int) (v2 : Int) (v3 : Int) (v4 : Int) (s0 : Int) : Prop :=
  ((s0 ≤ v3 → (Rg (v4 + 1)) ∧ K75 x v1 v2 v3 (v4 + 1)) ∧ (¬ (s0 ≤ v3) → (Rg (v4 + 1)) ∧ K75 x v1 v2 s0 (v4 + 1)))
def M_X11_matchAll_75 (q : XM → Prop) (K41 : XM → Int → Prop) (K47 : XM → Int → Int → Prop) : Nat → XM → Int → Int → Int → Int → Prop
  | 0, _, _, _, _, _ => False
  | n + 1, x, v1, v2, v3, v4 =>
  (((x 83 3) ≤ v4 → M_X11_matchAll_137 q K41 K47 x v1 v2 v3) ∧ (¬ ((x 83 3) ≤ v4) → M_X11_sewnTo x v1  (fun z10 => ((¬ z10 = (-1) → M_X11_matchAll_137 q K41 K47 x v1 v2 v3) ∧ (z10 = (-1) → M_X11_canSew x v4 v1 v2  (fun z12 => ((z12 = 0 → M_X11_matchAll_116 q K41 K47 (M_X11_matchAll_75 q K41 K47 n) x v1 v2 v3 v4 0) ∧ (¬ z12 = 0 → M_X11_worthBy x v4 v1 v2  (fun z17 => M_X11_matchAll_116 q K41 K47 (M_X11_matchAll_75 q K41 K47 n) x v1 v2 v3 v4 z17)))))))))
def M_X11_matchAll_47 (q : XM → Prop) (K41 : XM → Int → Prop) : Nat → XM → Int → Int → Prop
  | 0, _, _, _ => False
  | n + 1, x, v1, v2 =>
  (((jshl 1 (x 83 3)) ≤ v2 → (Rg (v1 + (-1))) ∧ K41 x (v1 + (-1))) ∧ (¬ ((jshl 1 (x 83 3)) ≤ v2) → (0 ≤ ((4096 * (v1 + 1)) + v2) ∧ ((4096 * (v1 + 1)) + v2) < 24576) ∧ (∃ m : Nat, M_X11_matchAll_75 q K41 (M_X11_matchAll_47 q K41 n) m x v1 v2 (x 100 ((((4096 * (v1 + 1)) + v2)).toNat)) 0)))
def M_X11_matchAll_41 (q : XM → Prop) : Nat → XM → Int → Prop
  | 0, _, _ => False
  | n + 1, x, v1 =>
  ((v1 < 0 → q x) ∧ (¬ (v1 < 0) → ∃ m : Nat, M_X11_matchAll_47 q (M_X11_matchAll_41 q n) m x v1 0))
def M_X11_matchAll_2 (q : XM → Prop) : Nat → XM → Int → Prop
  | 0, _, _ => False
  | n + 1, x, v1 =>
  (((jshl 1 (x 83 3)) ≤ v1 → (Rg ((x 83 9) - 1)) ∧ ∃ m : Nat, M_X11_matchAll_41 q m x ((x 83 9) - 1)) ∧ (¬ ((jshl 1 (x 83 3)) ≤ v1) → (0 ≤ ((4096 * (x 83 9)) + v1) ∧ ((4096 * (x 83 9)) + v1) < 24576) ∧ (∀ x20 : XM, x20 = uX x 100 ((((4096 * (x 83 9)) + v1)).toNat) 0 → (Rg (v1 + 1)) ∧ (M_X11_matchAll_2 q n) x20 (v1 + 1))))
def M_X11_matchAll (x : XM) (q : XM → Prop) : Prop :=
  ∃ m : Nat, M_X11_matchAll_2 q m x 0
set_option maxRecDepth 100000 in
theorem w_X11_matchAll_137 {Γ : GE} {q : XM → Prop} {K41 : XM → Int → Prop} {K47 : XM → Int → Int → Prop} (hK41 : ∀ (x : XM) (v1 : Int) , WX x → Rg v1 → K41 x v1 → V Γ 3 NF NF D_X11_matchAll (QU Γ q) 41 [.ref (gB Γ + 83), vI v1, uu, uu, uu, uu] [] NF (mk Γ x)) (hK47 : ∀ (x : XM) (v1 : Int) (v2 : Int) , WX x → Rg v1 → Rg v2 → K47 x v1 v2 → V Γ 3 NF NF D_X11_matchAll (QU Γ q) 47 [.ref (gB Γ + 83), vI v1, vI v2, uu, uu, uu] [] NF (mk Γ x)) : ∀ (x : XM) (v1 : Int) (v2 : Int) (v3 : Int) , WX x → Rg v1 → Rg v2 → Rg v3 → M_X11_matchAll_137 q K41 K47 x v1 v2 v3 → V Γ 3 NF NF D_X11_matchAll (QU Γ q) 137 [.ref (gB Γ + 83), vI v1, vI v2, vI v3, uu, uu] [] NF (mk Γ x) := by
  intro x v1 v2 v3 hx r1 r2 r3 h
  unfold M_X11_matchAll_137 at h
  refine V_aload_0 dX11_matchAll_137 ?_
  refine V_gR dX11_matchAll_138 fl_R_60 ly_83 (by decide) wr_83_35 ?_
  refine V_sipush dX11_matchAll_141 (by decide) ?_
  refine V_iload_1 dX11_matchAll_144 ?_
  refine V_imul dX11_matchAll_145 ?_
  refine V_iload_2 dX11_matchAll_146 ?_
  refine V_iadd dX11_matchAll_147 ?_
  refine V_iload_3 dX11_matchAll_148 ?_
  obtain ⟨g7, h⟩ := h
  refine V_sIe dX11_matchAll_149 ly_100 (by decide) (by decide) g7 (fun x8 ex8 => ?_)
  have h := h x8 ex8
  have hx8 := hx.upE r3 ex8
  refine V_iinc_2 (a2 := uu) dX11_matchAll_150 rfl ?_
  refine V_goto 47 dX11_matchAll_153 (by decide) ?_
  obtain ⟨g9, h⟩ := h
  refine V_fg_3 ?_
  exact hK47 _ _ _ hx8 r1 g9 h
set_option maxRecDepth 100000 in
theorem w_X11_matchAll_116 {Γ : GE} {q : XM → Prop} {K41 : XM → Int → Prop} {K47 : XM → Int → Int → Prop} {K75 : XM → Int → Int → Int → Int → Prop} (hK41 : ∀ (x : XM) (v1 : Int) , WX x → Rg v1 → K41 x v1 → V Γ 3 NF NF D_X11_matchAll (QU Γ q) 41 [.ref (gB Γ + 83), vI v1, uu, uu, uu, uu] [] NF (mk Γ x)) (hK47 : ∀ (x : XM) (v1 : Int) (v2 : Int) , WX x → Rg v1 → Rg v2 → K47 x v1 v2 → V Γ 3 NF NF D_X11_matchAll (QU Γ q) 47 [.ref (gB Γ + 83), vI v1, vI v2, uu, uu, uu] [] NF (mk Γ x)) (hK75 : ∀ (x : XM) (v1 : Int) (v2 : Int) (v3 : Int) (v4 : Int) , WX x → Rg v1 → Rg v2 → Rg v3 → Rg v4 → K75 x v1 v2 v3 v4 → V Γ 3 NF NF D_X11_matchAll (QU Γ q) 75 [.ref (gB Γ + 83), vI v1, vI v2, vI v3, vI v4, uu] [] NF (mk Γ x)) : ∀ (x : XM) (v1 : Int) (v2 : Int) (v3 : Int) (v4 : Int) (s0 : Int) , WX x → Rg v1 → Rg v2 → Rg v3 → Rg v4 → Rg s0 → M_X11_matchAll_116 q K41 K47 K75 x v1 v2 v3 v4 s0 → V Γ 3 NF NF D_X11_matchAll (QU Γ q) 116 [.ref (gB Γ + 83), vI v1, vI v2, vI v3, vI v4, uu] [vI s0] NF (mk Γ x) := by
  intro x v1 v2 v3 v4 s0 hx r1 r2 r3 r4 rs0 h
  unfold M_X11_matchAll_116 at h
  refine V_istore_5 dX11_matchAll_116 rfl rfl ?_
  refine V_iload_5 dX11_matchAll_118 ?_
  refine V_iload_3 dX11_matchAll_120 ?_
  refine V_icmp_le 129 dX11_matchAll_121 (by decide) rs0 r3 ⟨fun c14 => ?_, fun c14 => ?_⟩
  · have h := h.1 c14
    refine V_iload_3 dX11_matchAll_129 ?_
    refine V_istore_3 dX11_matchAll_130 rfl rfl ?_
    refine V_iinc_4 (a4 := uu) dX11_matchAll_131 rfl ?_
    refine V_goto 75 dX11_matchAll_134 (by decide) ?_
    obtain ⟨g15, h⟩ := h
    refine V_fg_5 ?_
    exact hK75 _ _ _ _ _ hx r1 r2 r3 g15 h
  · have h := h.2 c14
    refine V_iload_5 dX11_matchAll_124 ?_
    refine V_goto 130 dX11_matchAll_126 (by decide) ?_
    refine V_istore_3 dX11_matchAll_130 rfl rfl ?_
    refine V_iinc_4 (a4 := uu) dX11_matchAll_131 rfl ?_
    refine V_goto 75 dX11_matchAll_134 (by decide) ?_
    obtain ⟨g16, h⟩ := h
    refine V_fg_5 ?_
    exact hK75 _ _ _ _ _ hx r1 r2 rs0 g16 h
set_option maxRecDepth 100000 in
theorem w_X11_matchAll_75 {Γ : GE} {q : XM → Prop} {K41 : XM → Int → Prop} {K47 : XM → Int → Int → Prop} (hK41 : ∀ (x : XM) (v1 : Int) , WX x → Rg v1 → K41 x v1 → V Γ 3 NF NF D_X11_matchAll (QU Γ q) 41 [.ref (gB Γ + 83), vI v1, uu, uu, uu, uu] [] NF (mk Γ x)) (hK47 : ∀ (x : XM) (v1 : Int) (v2 : Int) , WX x → Rg v1 → Rg v2 → K47 x v1 v2 → V Γ 3 NF NF D_X11_matchAll (QU Γ q) 47 [.ref (gB Γ + 83), vI v1, vI v2, uu, uu, uu] [] NF (mk Γ x)) : ∀ (n : Nat) (x : XM) (v1 : Int) (v2 : Int) (v3 : Int) (v4 : Int) , WX x → Rg v1 → Rg v2 → Rg v3 → Rg v4 → M_X11_matchAll_75 q K41 K47 n x v1 v2 v3 v4 → V Γ 3 NF NF D_X11_matchAll (QU Γ q) 75 [.ref (gB Γ + 83), vI v1, vI v2, vI v3, vI v4, uu] [] NF (mk Γ x) := by
  intro n
  induction n with
  | zero =>
    intro x v1 v2 v3 v4 hx r1 r2 r3 r4 h
    rw [M_X11_matchAll_75.eq_1] at h
    exact h.elim
  | succ n ih =>
    intro x v1 v2 v3 v4 hx r1 r2 r3 r4 h
    rw [M_X11_matchAll_75.eq_2] at h
    refine V_iload_4 dX11_matchAll_75 ?_
    refine V_aload_0 dX11_matchAll_77 ?_
    refine V_gI dX11_matchAll_78 fl_R_145 ly_83 (by decide) wn_83_3 ?_
    refine V_icmp_ge 137 dX11_matchAll_81 (by decide) r4 (hx _ _) ⟨fun c6 => ?_, fun c6 => ?_⟩
    · have h := h.1 c6
      refine V_fg_4 ?_
      exact w_X11_matchAll_137 (hK41) (hK47) _ _ _ _ hx r1 r2 r3 h
    · have h := h.2 c6
      refine V_aload_0 dX11_matchAll_84 ?_
      refine V_iload_1 dX11_matchAll_85 ?_
      refine V_cVI1 (My := D_X11_sewnTo) dX11_matchAll_86 ml_R_218 ce_X11_sewnTo ly_83 (by decide) cl_11 (by decide) (Nat.le_refl _) (Nat.le_refl _) (by decide) (sumL rfl) (w_X11_sewnTo hx r1 h) (fun z10 hz10 h => ?_)
      refine V_iconst dX11_matchAll_89 ?_
      refine V_icmp_ne 137 dX11_matchAll_90 (by decide) hz10 (rgL rfl) ⟨fun c11 => ?_, fun c11 => ?_⟩
      · have h := h.1 c11
        refine V_fg_4 ?_
        exact w_X11_matchAll_137 (hK41) (hK47) _ _ _ _ hx r1 r2 r3 h
      · have h := h.2 c11
        refine V_aload_0 dX11_matchAll_93 ?_
        refine V_iload_4 dX11_matchAll_94 ?_
        refine V_iload_1 dX11_matchAll_96 ?_
        refine V_iload_2 dX11_matchAll_97 ?_
        refine V_cVI3 (My := D_X11_canSew) dX11_matchAll_98 ml_R_261 ce_X11_canSew ly_83 (by decide) cl_11 (by decide) (Nat.le_refl _) (Nat.le_refl _) (by decide) (sumL rfl) (w_X11_canSew hx r4 r1 r2 h) (fun z12 hz12 h => ?_)
        refine V_if_eq 115 dX11_matchAll_101 (by decide) hz12 ⟨fun c13 => ?_, fun c13 => ?_⟩
        · have h := h.1 c13
          refine V_iconst dX11_matchAll_115 ?_
          exact w_X11_matchAll_116 (hK41) (hK47) (ih) _ _ _ _ _ _ hx r1 r2 r3 r4 (rgL rfl) h
        · have h := h.2 c13
          refine V_aload_0 dX11_matchAll_104 ?_
          refine V_iload_4 dX11_matchAll_105 ?_
          refine V_iload_1 dX11_matchAll_107 ?_
          refine V_iload_2 dX11_matchAll_108 ?_
          refine V_cVI3 (My := D_X11_worthBy) dX11_matchAll_109 ml_R_264 ce_X11_worthBy ly_83 (by decide) cl_11 (by decide) (Nat.le_refl _) (Nat.le_refl _) (by decide) (sumL rfl) (w_X11_worthBy hx r4 r1 r2 h) (fun z17 hz17 h => ?_)
          refine V_goto 116 dX11_matchAll_112 (by decide) ?_
          exact w_X11_matchAll_116 (hK41) (hK47) (ih) _ _ _ _ _ _ hx r1 r2 r3 r4 hz17 h
set_option maxRecDepth 100000 in
theorem w_X11_matchAll_47 {Γ : GE} {q : XM → Prop} {K41 : XM → Int → Prop} (hK41 : ∀ (x : XM) (v1 : Int) , WX x → Rg v1 → K41 x v1 → V Γ 3 NF NF D_X11_matchAll (QU Γ q) 41 [.ref (gB Γ + 83), vI v1, uu, uu, uu, uu] [] NF (mk Γ x)) : ∀ (n : Nat) (x : XM) (v1 : Int) (v2 : Int) , WX x → Rg v1 → Rg v2 → M_X11_matchAll_47 q K41 n x v1 v2 → V Γ 3 NF NF D_X11_matchAll (QU Γ q) 47 [.ref (gB Γ + 83), vI v1, vI v2, uu, uu, uu] [] NF (mk Γ x) := by
  intro n
  induction n with
  | zero =>
    intro x v1 v2 hx r1 r2 h
    rw [M_X11_matchAll_47.eq_1] at h
    exact h.elim
  | succ n ih =>
    intro x v1 v2 hx r1 r2 h
    rw [M_X11_matchAll_47.eq_2] at h
    refine V_iload_2 dX11_matchAll_47 ?_
    refine V_iconst dX11_matchAll_48 ?_
    refine V_aload_0 dX11_matchAll_49 ?_
    refine V_gI dX11_matchAll_50 fl_R_145 ly_83 (by decide) wn_83_3 ?_
    refine V_ishl dX11_matchAll_53 ?_
    refine V_icmp_ge 156 dX11_matchAll_54 (by decide) r2 (Rg.of _) ⟨fun c3 => ?_, fun c3 => ?_⟩
    · have h := h.1 c3
      refine V_iinc_1 (a1 := uu) dX11_matchAll_156 rfl ?_
      refine V_goto 41 dX11_matchAll_159 (by decide) ?_
      obtain ⟨g4, h⟩ := h
      refine V_fg_2 ?_
      exact hK41 _ _ hx g4 h
    · have h := h.2 c3
      refine V_aload_0 dX11_matchAll_57 ?_
      refine V_gR dX11_matchAll_58 fl_R_60 ly_83 (by decide) wr_83_35 ?_
      refine V_sipush dX11_matchAll_61 (by decide) ?_
      refine V_iload_1 dX11_matchAll_64 ?_
      refine V_iconst dX11_matchAll_65 ?_
      refine V_iadd dX11_matchAll_66 ?_
      refine V_imul dX11_matchAll_67 ?_
      refine V_iload_2 dX11_matchAll_68 ?_
      refine V_iadd dX11_matchAll_69 ?_
      obtain ⟨g5, h⟩ := h
      refine V_aI dX11_matchAll_70 ly_100 (by decide) (by decide) g5 ?_
      refine V_istore_3 dX11_matchAll_71 rfl rfl ?_
      refine V_iconst dX11_matchAll_72 ?_
      refine V_istore_4 dX11_matchAll_73 rfl rfl ?_
      obtain ⟨m9, h⟩ := h
      exact w_X11_matchAll_75 (hK41) (ih) m9 _ _ _ _ _ hx r1 r2 (hx _ _) (rgL rfl) h
set_option maxRecDepth 100000 in
theorem w_X11_matchAll_41 {Γ : GE} {q : XM → Prop} : ∀ (n : Nat) (x : XM) (v1 : Int) , WX x → Rg v1 → M_X11_matchAll_41 q n x v1 → V Γ 3 NF NF D_X11_matchAll (QU Γ q) 41 [.ref (gB Γ + 83), vI v1, uu, uu, uu, uu] [] NF (mk Γ x) := by
  intro n
  induction n with
  | zero =>
    intro x v1 hx r1 h
    rw [M_X11_matchAll_41.eq_1] at h
    exact h.elim
  | succ n ih =>
    intro x v1 hx r1 h
    rw [M_X11_matchAll_41.eq_2] at h
    refine V_iload_1 dX11_matchAll_41 ?_
    refine V_if_lt 162 dX11_matchAll_42 (by decide) r1 ⟨fun c2 => ?_, fun c2 => ?_⟩
    · have h := h.1 c2
      exact V_vreturn dX11_matchAll_162 rfl ⟨_, rfl, hx, rfl, h⟩
    · have h := h.2 c2
      refine V_iconst dX11_matchAll_45 ?_
      refine V_istore_2 dX11_matchAll_46 rfl rfl ?_
      obtain ⟨m9, h⟩ := h
      exact w_X11_matchAll_47 (ih) m9 _ _ _ hx r1 (rgL rfl) h
set_option maxRecDepth 100000 in
theorem w_X11_matchAll_2 {Γ : GE} {q : XM → Prop} : ∀ (n : Nat) (x : XM) (v1 : Int) , WX x → Rg v1 → M_X11_matchAll_2 q n x v1 → V Γ 3 NF NF D_X11_matchAll (QU Γ q) 2 [.ref (gB Γ + 83), vI v1, uu, uu, uu, uu] [] NF (mk Γ x) := by
  intro n
  induction n with
  | zero =>
    intro x v1 hx r1 h
    rw [M_X11_matchAll_2.eq_1] at h
    exact h.elim
  | succ n ih =>
    intro x v1 hx r1 h
    rw [M_X11_matchAll_2.eq_2] at h
    refine V_iload_1 dX11_matchAll_2 ?_
    refine V_iconst dX11_matchAll_3 ?_
    refine V_aload_0 dX11_matchAll_4 ?_
    refine V_gI dX11_matchAll_5 fl_R_145 ly_83 (by decide) wn_83_3 ?_
    refine V_ishl dX11_matchAll_8 ?_
    refine V_icmp_ge 34 dX11_matchAll_9 (by decide) r1 (Rg.of _) ⟨fun c1 => ?_, fun c1 => ?_⟩
    · have h := h.1 c1
      refine V_aload_0 dX11_matchAll_34 ?_
      refine V_gI dX11_matchAll_35 fl_R_154 ly_83 (by decide) wn_83_9 ?_
      refine V_iconst dX11_matchAll_38 ?_
      refine V_isub dX11_matchAll_39 ?_
      refine V_istore_1 dX11_matchAll_40 rfl rfl ?_
      obtain ⟨g18, h⟩ := h
      obtain ⟨m9, h⟩ := h
      exact w_X11_matchAll_41 m9 _ _ hx g18 h
    · have h := h.2 c1
      refine V_aload_0 dX11_matchAll_12 ?_
      refine V_gR dX11_matchAll_13 fl_R_60 ly_83 (by decide) wr_83_35 ?_
      refine V_sipush dX11_matchAll_16 (by decide) ?_
      refine V_aload_0 dX11_matchAll_19 ?_
      refine V_gI dX11_matchAll_20 fl_R_154 ly_83 (by decide) wn_83_9 ?_
      refine V_imul dX11_matchAll_23 ?_
      refine V_iload_1 dX11_matchAll_24 ?_
      refine V_iadd dX11_matchAll_25 ?_
      refine V_iconst dX11_matchAll_26 ?_
      obtain ⟨g19, h⟩ := h
      refine V_sIe dX11_matchAll_27 ly_100 (by decide) (by decide) g19 (fun x20 ex20 => ?_)
      have h := h x20 ex20
      have hx20 := hx.upE (rgL rfl) ex20
      refine V_iinc_1 (a1 := uu) dX11_matchAll_28 rfl ?_
      refine V_goto 2 dX11_matchAll_31 (by decide) ?_
      obtain ⟨g21, h⟩ := h
      exact ih _ _ hx20 g21 h
set_option maxRecDepth 100000 in
theorem w_X11_matchAll {Γ : GE} {x : XM} (hx : WX x) {q : XM → Prop} (h : M_X11_matchAll x q) : CV Γ 3 NF NF D_X11_matchAll [.ref (gB Γ + 83)] (mk Γ x) (QU Γ q) := by
  refine CV.of rfl (cat_all rfl) (Nat.le_of_ble_eq_true rfl) ?_
  show V Γ 3 NF NF D_X11_matchAll (QU Γ q) 0 [.ref (gB Γ + 83), uu, uu, uu, uu, uu] [] NF (mk Γ x)
  unfold M_X11_matchAll at h
  refine V_iconst dX11_matchAll_0 ?_
  refine V_istore_1 dX11_matchAll_1 rfl rfl ?_
  obtain ⟨m9, h⟩ := h
  exact w_X11_matchAll_2 m9 _ _ hx (rgL rfl) h
def M_X11_matchOf_2 (q : Int → Prop) (x : XM) : Nat → Int → Int → Int → Prop
  | 0, _, _, _ => False
  | n + 1, v1, v2, v3 =>
  (((x 83 3) ≤ v3 → q (-1)) ∧ (¬ ((x 83 3) ≤ v3) → M_X11_sewnTo x v1  (fun z2 => ((¬ z2 = (-1) → q (-1)) ∧ (z2 = (-1) → M_X11_canSew x v3 v1 v2  (fun z4 => ((z4 = 0 → (Rg (v3 + 1)) ∧ (M_X11_matchOf_2 q x n) v1 v2 (v3 + 1)) ∧ (¬ z4 = 0 → M_X11_worthBy x v3 v1 v2  (fun z7 => (0 ≤ ((4096 * v1) + v2) ∧ ((4096 * v1) + v2) < 24576) ∧ ((¬ z7 = (x 100 ((((4096 * v1) + v2)).toNat)) → (Rg (v3 + 1)) ∧ (M_X11_matchOf_2 q x n) v1 v2 (v3 + 1)) ∧ (z7 = (x 100 ((((4096 * v1) + v2)).toNat)) → q v3)))))))))))
def M_X11_matchOf (x : XM) (v1 : Int) (v2 : Int) (q : Int → Prop) : Prop :=
  ∃ m : Nat, M_X11_matchOf_2 q x m v1 v2 0
set_option maxRecDepth 100000 in
theorem w_X11_matchOf_2 {Γ : GE} {q : Int → Prop} {x : XM} (hx : WX x) : ∀ (n : Nat) (v1 : Int) (v2 : Int) (v3 : Int) , Rg v1 → Rg v2 → Rg v3 → M_X11_matchOf_2 q x n v1 v2 v3 → V Γ 3 NF NF D_X11_matchOf (QI Γ x q) 2 [.ref (gB Γ + 83), vI v1, vI v2, vI v3] [] NF (mk Γ x) := by
  intro n
  induction n with
  | zero =>
    intro v1 v2 v3 r1 r2 r3 h
    rw [M_X11_matchOf_2.eq_1] at h
    exact h.elim
  | succ n ih =>
    intro v1 v2 v3 r1 r2 r3 h
    rw [M_X11_matchOf_2.eq_2] at h
    refine V_iload_3 dX11_matchOf_2 ?_
    refine V_aload_0 dX11_matchOf_3 ?_
    refine V_gI dX11_matchOf_4 fl_R_145 ly_83 (by decide) wn_83_3 ?_
    refine V_icmp_ge 59 dX11_matchOf_7 (by decide) r3 (hx _ _) ⟨fun c1 => ?_, fun c1 => ?_⟩
    · have h := h.1 c1
      refine V_iconst dX11_matchOf_59 ?_
      exact V_ireturn dX11_matchOf_60 rfl ⟨rfl, _, rfl, (rgL rfl), h⟩
    · have h := h.2 c1
      refine V_aload_0 dX11_matchOf_10 ?_
      refine V_iload_1 dX11_matchOf_11 ?_
      refine V_cVI1 (My := D_X11_sewnTo) dX11_matchOf_12 ml_R_218 ce_X11_sewnTo ly_83 (by decide) cl_11 (by decide) (Nat.le_refl _) (Nat.le_refl _) (by decide) (sumL rfl) (w_X11_sewnTo hx r1 h) (fun z2 hz2 h => ?_)
      refine V_iconst dX11_matchOf_15 ?_
      refine V_icmp_ne 59 dX11_matchOf_16 (by decide) hz2 (rgL rfl) ⟨fun c3 => ?_, fun c3 => ?_⟩
      · have h := h.1 c3
        refine V_iconst dX11_matchOf_59 ?_
        exact V_ireturn dX11_matchOf_60 rfl ⟨rfl, _, rfl, (rgL rfl), h⟩
      · have h := h.2 c3
        refine V_aload_0 dX11_matchOf_19 ?_
        refine V_iload_3 dX11_matchOf_20 ?_
        refine V_iload_1 dX11_matchOf_21 ?_
        refine V_iload_2 dX11_matchOf_22 ?_
        refine V_cVI3 (My := D_X11_canSew) dX11_matchOf_23 ml_R_261 ce_X11_canSew ly_83 (by decide) cl_11 (by decide) (Nat.le_refl _) (Nat.le_refl _) (by decide) (sumL rfl) (w_X11_canSew hx r3 r1 r2 h) (fun z4 hz4 h => ?_)
        refine V_if_eq 53 dX11_matchOf_26 (by decide) hz4 ⟨fun c5 => ?_, fun c5 => ?_⟩
        · have h := h.1 c5
          refine V_iinc_3 (a3 := uu) dX11_matchOf_53 rfl ?_
          refine V_goto 2 dX11_matchOf_56 (by decide) ?_
          obtain ⟨g6, h⟩ := h
          exact ih _ _ _ r1 r2 g6 h
        · have h := h.2 c5
          refine V_aload_0 dX11_matchOf_29 ?_
          refine V_iload_3 dX11_matchOf_30 ?_
          refine V_iload_1 dX11_matchOf_31 ?_
          refine V_iload_2 dX11_matchOf_32 ?_
          refine V_cVI3 (My := D_X11_worthBy) dX11_matchOf_33 ml_R_264 ce_X11_worthBy ly_83 (by decide) cl_11 (by decide) (Nat.le_refl _) (Nat.le_refl _) (by decide) (sumL rfl) (w_X11_worthBy hx r3 r1 r2 h) (fun z7 hz7 h => ?_)
          refine V_aload_0 dX11_matchOf_36 ?_
          refine V_gR dX11_matchOf_37 fl_R_60 ly_83 (by decide) wr_83_35 ?_
          refine V_sipush dX11_matchOf_40 (by decide) ?_
          refine V_iload_1 dX11_matchOf_43 ?_
          refine V_imul dX11_matchOf_44 ?_
          refine V_iload_2 dX11_matchOf_45 ?_
          refine V_iadd dX11_matchOf_46 ?_
          obtain ⟨g8, h⟩ := h
          refine V_aI dX11_matchOf_47 ly_100 (by decide) (by decide) g8 ?_
          refine V_icmp_ne 53 dX11_matchOf_48 (by decide) hz7 (hx _ _) ⟨fun c9 => ?_, fun c9 => ?_⟩
          · have h := h.1 c9
            refine V_iinc_3 (a3 := uu) dX11_matchOf_53 rfl ?_
            refine V_goto 2 dX11_matchOf_56 (by decide) ?_
            obtain ⟨g10, h⟩ := h
            exact ih _ _ _ r1 r2 g10 h
          · have h := h.2 c9
            refine V_iload_3 dX11_matchOf_51 ?_
            exact V_ireturn dX11_matchOf_52 rfl ⟨rfl, _, rfl, r3, h⟩
set_option maxRecDepth 100000 in
theorem w_X11_matchOf {Γ : GE} {x : XM} (hx : WX x) {v1 v2 : Int} {q : Int → Prop} (r1 : Rg v1) (r2 : Rg v2) (h : M_X11_matchOf x v1 v2 q) : CV Γ 3 NF NF D_X11_matchOf [.ref (gB Γ + 83), vI v1, vI v2] (mk Γ x) (QI Γ x q) := by
  refine CV.of rfl (cat_all rfl) (Nat.le_of_ble_eq_true rfl) ?_
  show V Γ 3 NF NF D_X11_matchOf (QI Γ x q) 0 [.ref (gB Γ + 83), vI v1, vI v2, uu] [] NF (mk Γ x)
  unfold M_X11_matchOf at h
  refine V_iconst dX11_matchOf_0 ?_
  refine V_istore_3 dX11_matchOf_1 rfl rfl ?_
  obtain ⟨m9, h⟩ := h
  exact w_X11_matchOf_2 hx m9 _ _ _ r1 r2 (rgL rfl) h
def M_X11_match_102 (q : Int → XM → Prop) (K35 : XM → Int → Int → Int → Int → Int → Int → Prop) (x : XM) (v1 : Int) (v2 : Int) (v3 : Int) (v5 : Int) (v6 : Int) (v7 : Int) (s0 : Int) (s1 : Int) : Prop :=
  ((¬ v6 = v1 → (Rg (s1 + s0)) ∧ (Rg (v6 + 1)) ∧ K35 x v1 v2 v3 (s1 + s0) v5 (v6 + 1)) ∧ (v6 = v1 → (Rg (s1 + s0)) ∧ (Rg (v6 + 1)) ∧ K35 x v1 v2 v3 (s1 + s0) v7 (v6 + 1)))
def M_X11_match_82 (q : Int → XM → Prop) (K35 : XM → Int → Int → Int → Int → Int → Int → Prop) (x : XM) (v1 : Int) (v2 : Int) (v4 : Int) (v5 : Int) (v6 : Int) (v7 : Int) (s0 : Int) (s1 : Int) : Prop :=
  ((¬ v7 = (-1) → M_X11_holds x v7  (fun z12 => (Rg (s1 + s0)) ∧ M_X11_match_102 q K35 x v1 v2 (s1 + s0) v5 v6 v7 z12 v4)) ∧ (v7 = (-1) → (Rg (s1 + s0)) ∧ M_X11_match_102 q K35 x v1 v2 (s1 + s0) v5 v6 v7 0 v4))
def M_X11_match_68 (q : Int → XM → Prop) (K35 : XM → Int → Int → Int → Int → Int → Int → Prop) (x : XM) (v1 : Int) (v3 : Int) (v4 : Int) (v5 : Int) (v6 : Int) (v7 : Int) (s0 : Int) (s1 : Int) : Prop :=
  ((¬ v7 = (-1) → M_X11_match_82 q K35 x v1 (jor s1 s0) v4 v5 v6 v7 1 v3) ∧ (v7 = (-1) → M_X11_match_82 q K35 x v1 (jor s1 s0) v4 v5 v6 v7 0 v3))
def M_X11_match_35 (q : Int → XM → Prop) : Nat → XM → Int → Int → Int → Int → Int → Int → Prop
  | 0, _, _, _, _, _, _, _ => False
  | n + 1, x, v1, v2, v3, v4, v5, v6 =>
  (((x 83 9) ≤ v6 → ((¬ v1 = (-1) → ((¬ v1 = (-2) → q v5 x) ∧ (v1 = (-2) → q v4 x))) ∧ (v1 = (-1) → q v3 x))) ∧ (¬ ((x 83 9) ≤ v6) → M_X11_matchOf x v6 v2  (fun z8 => ((¬ z8 = (-1) → M_X11_match_68 q (M_X11_match_35 q n) x v1 v3 v4 v5 v6 z8 (jshl 1 z8) v2) ∧ (z8 = (-1) → M_X11_match_68 q (M_X11_match_35 q n) x v1 v3 v4 v5 v6 z8 0 v2)))))
def M_X11_match (x : XM) (v1 : Int) (q : Int → XM → Prop) : Prop :=
  (Rg ((x 83 9) - 1)) ∧ M_X11_in x v1 (-2) ((x 83 9) - 1)  (fun z2 => ((¬ z2 = 0 → M_X11_matchAll x  (fun x4 => ∃ m : Nat, M_X11_match_35 q m x4 v1 0 0 0 (-1) 0)) ∧ (z2 = 0 → q (-1000000001) x)))
set_option maxRecDepth 100000 in
theorem w_X11_match_102 {Γ : GE} {q : Int → XM → Prop} {K35 : XM → Int → Int → Int → Int → Int → Int → Prop} (hK35 : ∀ (x : XM) (v1 : Int) (v2 : Int) (v3 : Int) (v4 : Int) (v5 : Int) (v6 : Int) , WX x → Rg v1 → Rg v2 → Rg v3 → Rg v4 → Rg v5 → Rg v6 → K35 x v1 v2 v3 v4 v5 v6 → V Γ 4 NF NF D_X11_match (QE Γ q) 35 [.ref (gB Γ + 83), vI v1, vI v2, vI v3, vI v4, vI v5, vI v6, uu] [] NF (mk Γ x)) : ∀ (x : XM) (v1 : Int) (v2 : Int) (v3 : Int) (v5 : Int) (v6 : Int) (v7 : Int) (s0 : Int) (s1 : Int) , WX x → Rg v1 → Rg v2 → Rg v3 → Rg v5 → Rg v6 → Rg v7 → Rg s0 → Rg s1 → M_X11_match_102 q K35 x v1 v2 v3 v5 v6 v7 s0 s1 → V Γ 4 NF NF D_X11_match (QE Γ q) 102 [.ref (gB Γ + 83), vI v1, vI v2, vI v3, uu, vI v5, vI v6, vI v7] [vI s0, vI s1] NF (mk Γ x) := by
  intro x v1 v2 v3 v5 v6 v7 s0 s1 hx r1 r2 r3 r5 r6 r7 rs0 rs1 h
  unfold M_X11_match_102 at h
  refine V_iadd dX11_match_102 ?_
  refine V_istore_4 dX11_match_103 rfl rfl ?_
  refine V_iload_6 dX11_match_105 ?_
  refine V_iload_1 dX11_match_107 ?_
  refine V_icmp_ne 116 dX11_match_108 (by decide) r6 r1 ⟨fun c13 => ?_, fun c13 => ?_⟩
  · have h := h.1 c13
    refine V_iload_5 dX11_match_116 ?_
    refine V_istore_5 dX11_match_118 rfl rfl ?_
    refine V_iinc_6 (a6 := uu) dX11_match_120 rfl ?_
    refine V_goto 35 dX11_match_123 (by decide) ?_
    obtain ⟨g14, h⟩ := h
    obtain ⟨g15, h⟩ := h
    refine V_fg_7 ?_
    exact hK35 _ _ _ _ _ _ _ hx r1 r2 r3 g14 r5 g15 h
  · have h := h.2 c13
    refine V_iload_7 dX11_match_111 ?_
    refine V_goto 118 dX11_match_113 (by decide) ?_
    refine V_istore_5 dX11_match_118 rfl rfl ?_
    refine V_iinc_6 (a6 := uu) dX11_match_120 rfl ?_
    refine V_goto 35 dX11_match_123 (by decide) ?_
    obtain ⟨g16, h⟩ := h
    obtain ⟨g17, h⟩ := h
    refine V_fg_7 ?_
    exact hK35 _ _ _ _ _ _ _ hx r1 r2 r3 g16 r7 g17 h
set_option maxRecDepth 100000 in
theorem w_X11_match_82 {Γ : GE} {q : Int → XM → Prop} {K35 : XM → Int → Int → Int → Int → Int → Int → Prop} (hK35 : ∀ (x : XM) (v1 : Int) (v2 : Int) (v3 : Int) (v4 : Int) (v5 : Int) (v6 : Int) , WX x → Rg v1 → Rg v2 → Rg v3 → Rg v4 → Rg v5 → Rg v6 → K35 x v1 v2 v3 v4 v5 v6 → V Γ 4 NF NF D_X11_match (QE Γ q) 35 [.ref (gB Γ + 83), vI v1, vI v2, vI v3, vI v4, vI v5, vI v6, uu] [] NF (mk Γ x)) : ∀ (x : XM) (v1 : Int) (v2 : Int) (v4 : Int) (v5 : Int) (v6 : Int) (v7 : Int) (s0 : Int) (s1 : Int) , WX x → Rg v1 → Rg v2 → Rg v4 → Rg v5 → Rg v6 → Rg v7 → Rg s0 → Rg s1 → M_X11_match_82 q K35 x v1 v2 v4 v5 v6 v7 s0 s1 → V Γ 4 NF NF D_X11_match (QE Γ q) 82 [.ref (gB Γ + 83), vI v1, vI v2, uu, vI v4, vI v5, vI v6, vI v7] [vI s0, vI s1] NF (mk Γ x) := by
  intro x v1 v2 v4 v5 v6 v7 s0 s1 hx r1 r2 r4 r5 r6 r7 rs0 rs1 h
  unfold M_X11_match_82 at h
  refine V_iadd dX11_match_82 ?_
  refine V_istore_3 dX11_match_83 rfl rfl ?_
  refine V_iload_4 dX11_match_84 ?_
  refine V_iload_7 dX11_match_86 ?_
  refine V_iconst dX11_match_88 ?_
  refine V_icmp_ne 96 dX11_match_89 (by decide) r7 (rgL rfl) ⟨fun c11 => ?_, fun c11 => ?_⟩
  · have h := h.1 c11
    refine V_aload_0 dX11_match_96 ?_
    refine V_iload_7 dX11_match_97 ?_
    refine V_cVI1 (My := D_X11_holds) dX11_match_99 ml_R_180 ce_X11_holds ly_83 (by decide) cl_11 (by decide) (Nat.le_refl _) (Nat.le_refl _) (by decide) (sumL rfl) (w_X11_holds hx r7 h) (fun z12 hz12 h => ?_)
    obtain ⟨g18, h⟩ := h
    refine V_fg_4 ?_
    exact w_X11_match_102 (hK35) _ _ _ _ _ _ _ _ _ hx r1 r2 g18 r5 r6 r7 hz12 r4 h
  · have h := h.2 c11
    refine V_iconst dX11_match_92 ?_
    refine V_goto 102 dX11_match_93 (by decide) ?_
    obtain ⟨g19, h⟩ := h
    refine V_fg_4 ?_
    exact w_X11_match_102 (hK35) _ _ _ _ _ _ _ _ _ hx r1 r2 g19 r5 r6 r7 (rgL rfl) r4 h
set_option maxRecDepth 100000 in
theorem w_X11_match_68 {Γ : GE} {q : Int → XM → Prop} {K35 : XM → Int → Int → Int → Int → Int → Int → Prop} (hK35 : ∀ (x : XM) (v1 : Int) (v2 : Int) (v3 : Int) (v4 : Int) (v5 : Int) (v6 : Int) , WX x → Rg v1 → Rg v2 → Rg v3 → Rg v4 → Rg v5 → Rg v6 → K35 x v1 v2 v3 v4 v5 v6 → V Γ 4 NF NF D_X11_match (QE Γ q) 35 [.ref (gB Γ + 83), vI v1, vI v2, vI v3, vI v4, vI v5, vI v6, uu] [] NF (mk Γ x)) : ∀ (x : XM) (v1 : Int) (v3 : Int) (v4 : Int) (v5 : Int) (v6 : Int) (v7 : Int) (s0 : Int) (s1 : Int) , WX x → Rg v1 → Rg v3 → Rg v4 → Rg v5 → Rg v6 → Rg v7 → Rg s0 → Rg s1 → M_X11_match_68 q K35 x v1 v3 v4 v5 v6 v7 s0 s1 → V Γ 4 NF NF D_X11_match (QE Γ q) 68 [.ref (gB Γ + 83), vI v1, uu, vI v3, vI v4, vI v5, vI v6, vI v7] [vI s0, vI s1] NF (mk Γ x) := by
  intro x v1 v3 v4 v5 v6 v7 s0 s1 hx r1 r3 r4 r5 r6 r7 rs0 rs1 h
  unfold M_X11_match_68 at h
  refine V_ior dX11_match_68 ?_
  refine V_istore_2 dX11_match_69 rfl rfl ?_
  refine V_iload_3 dX11_match_70 ?_
  refine V_iload_7 dX11_match_71 ?_
  refine V_iconst dX11_match_73 ?_
  refine V_icmp_ne 81 dX11_match_74 (by decide) r7 (rgL rfl) ⟨fun c10 => ?_, fun c10 => ?_⟩
  · have h := h.1 c10
    refine V_iconst dX11_match_81 ?_
    refine V_fg_3 ?_
    exact w_X11_match_82 (hK35) _ _ _ _ _ _ _ _ _ hx r1 (Rg.of _) r4 r5 r6 r7 (rgL rfl) r3 h
  · have h := h.2 c10
    refine V_iconst dX11_match_77 ?_
    refine V_goto 82 dX11_match_78 (by decide) ?_
    refine V_fg_3 ?_
    exact w_X11_match_82 (hK35) _ _ _ _ _ _ _ _ _ hx r1 (Rg.of _) r4 r5 r6 r7 (rgL rfl) r3 h
set_option maxRecDepth 100000 in
theorem w_X11_match_35 {Γ : GE} {q : Int → XM → Prop} : ∀ (n : Nat) (x : XM) (v1 : Int) (v2 : Int) (v3 : Int) (v4 : Int) (v5 : Int) (v6 : Int) , WX x → Rg v1 → Rg v2 → Rg v3 → Rg v4 → Rg v5 → Rg v6 → M_X11_match_35 q n x v1 v2 v3 v4 v5 v6 → V Γ 4 NF NF D_X11_match (QE Γ q) 35 [.ref (gB Γ + 83), vI v1, vI v2, vI v3, vI v4, vI v5, vI v6, uu] [] NF (mk Γ x) := by
  intro n
  induction n with
  | zero =>
    intro x v1 v2 v3 v4 v5 v6 hx r1 r2 r3 r4 r5 r6 h
    rw [M_X11_match_35.eq_1] at h
    exact h.elim
  | succ n ih =>
    intro x v1 v2 v3 v4 v5 v6 hx r1 r2 r3 r4 r5 r6 h
    rw [M_X11_match_35.eq_2] at h
    refine V_iload_6 dX11_match_35 ?_
    refine V_aload_0 dX11_match_37 ?_
    refine V_gI dX11_match_38 fl_R_154 ly_83 (by decide) wn_83_9 ?_
    refine V_icmp_ge 126 dX11_match_41 (by decide) r6 (hx _ _) ⟨fun c5 => ?_, fun c5 => ?_⟩
    · have h := h.1 c5
      refine V_iload_1 dX11_match_126 ?_
      refine V_iconst dX11_match_127 ?_
      refine V_icmp_ne 135 dX11_match_128 (by decide) r1 (rgL rfl) ⟨fun c6 => ?_, fun c6 => ?_⟩
      · have h := h.1 c6
        refine V_iload_1 dX11_match_135 ?_
        refine V_bipush dX11_match_136 (by decide) ?_
        refine V_icmp_ne 146 dX11_match_138 (by decide) r1 (rgL rfl) ⟨fun c7 => ?_, fun c7 => ?_⟩
        · have h := h.1 c7
          refine V_iload_5 dX11_match_146 ?_
          exact V_ireturn dX11_match_148 rfl ⟨_, _, rfl, hx, rfl, r5, h⟩
        · have h := h.2 c7
          refine V_iload_4 dX11_match_141 ?_
          refine V_goto 148 dX11_match_143 (by decide) ?_
          exact V_ireturn dX11_match_148 rfl ⟨_, _, rfl, hx, rfl, r4, h⟩
      · have h := h.2 c6
        refine V_iload_3 dX11_match_131 ?_
        refine V_goto 148 dX11_match_132 (by decide) ?_
        exact V_ireturn dX11_match_148 rfl ⟨_, _, rfl, hx, rfl, r3, h⟩
    · have h := h.2 c5
      refine V_aload_0 dX11_match_44 ?_
      refine V_iload_6 dX11_match_45 ?_
      refine V_iload_2 dX11_match_47 ?_
      refine V_cVI2 (My := D_X11_matchOf) dX11_match_48 ml_R_271 ce_X11_matchOf ly_83 (by decide) cl_11 (by decide) (Nat.le_refl _) (Nat.le_refl _) (by decide) (sumL rfl) (w_X11_matchOf hx r6 r2 h) (fun z8 hz8 h => ?_)
      refine V_istore_7 dX11_match_51 rfl rfl ?_
      refine V_iload_2 dX11_match_53 ?_
      refine V_iload_7 dX11_match_54 ?_
      refine V_iconst dX11_match_56 ?_
      refine V_icmp_ne 64 dX11_match_57 (by decide) hz8 (rgL rfl) ⟨fun c9 => ?_, fun c9 => ?_⟩
      · have h := h.1 c9
        refine V_iconst dX11_match_64 ?_
        refine V_iload_7 dX11_match_65 ?_
        refine V_ishl dX11_match_67 ?_
        refine V_fg_2 ?_
        exact w_X11_match_68 (ih) _ _ _ _ _ _ _ _ _ hx r1 r3 r4 r5 r6 hz8 (Rg.of _) r2 h
      · have h := h.2 c9
        refine V_iconst dX11_match_60 ?_
        refine V_goto 68 dX11_match_61 (by decide) ?_
        refine V_fg_2 ?_
        exact w_X11_match_68 (ih) _ _ _ _ _ _ _ _ _ hx r1 r3 r4 r5 r6 hz8 (rgL rfl) r2 h
set_option maxRecDepth 100000 in
theorem w_X11_match {Γ : GE} {x : XM} (hx : WX x) {v1 : Int} {q : Int → XM → Prop} (r1 : Rg v1) (h : M_X11_match x v1 q) : CV Γ 4 NF NF D_X11_match [.ref (gB Γ + 83), vI v1] (mk Γ x) (QE Γ q) := by
  refine CV.of rfl (cat_all rfl) (Nat.le_of_ble_eq_true rfl) ?_
  show V Γ 4 NF NF D_X11_match (QE Γ q) 0 [.ref (gB Γ + 83), vI v1, uu, uu, uu, uu, uu, uu] [] NF (mk Γ x)
  unfold M_X11_match at h
  refine V_iload_1 dX11_match_0 ?_
  refine V_bipush dX11_match_1 (by decide) ?_
  refine V_aload_0 dX11_match_3 ?_
  refine V_gI dX11_match_4 fl_R_154 ly_83 (by decide) wn_83_9 ?_
  refine V_iconst dX11_match_7 ?_
  refine V_isub dX11_match_8 ?_
  obtain ⟨g1, h⟩ := h
  refine V_cSI3 (My := D_X11_in) dX11_match_9 ml_R_73 ce_X11_in (Nat.le_refl _) (Nat.le_refl _) (by decide) (sumL rfl) (w_X11_in hx r1 (rgL rfl) g1 h) (fun z2 hz2 h => ?_)
  refine V_if_ne 18 dX11_match_12 (by decide) hz2 ⟨fun c3 => ?_, fun c3 => ?_⟩
  · have h := h.1 c3
    refine V_aload_0 dX11_match_18 ?_
    refine V_cVU0 (My := D_X11_matchAll) dX11_match_19 ml_R_268 ce_X11_matchAll ly_83 (by decide) cl_11 (by decide) (Nat.le_refl _) (Nat.le_refl _) (by decide) (sumL rfl) (w_X11_matchAll hx h) (fun x4 hx4 h => ?_)
    refine V_iconst dX11_match_22 ?_
    refine V_istore_2 dX11_match_23 rfl rfl ?_
    refine V_iconst dX11_match_24 ?_
    refine V_istore_3 dX11_match_25 rfl rfl ?_
    refine V_iconst dX11_match_26 ?_
    refine V_istore_4 dX11_match_27 rfl rfl ?_
    refine V_iconst dX11_match_29 ?_
    refine V_istore_5 dX11_match_30 rfl rfl ?_
    refine V_iconst dX11_match_32 ?_
    refine V_istore_6 dX11_match_33 rfl rfl ?_
    obtain ⟨m9, h⟩ := h
    exact w_X11_match_35 m9 _ _ _ _ _ _ _ hx4 r1 (rgL rfl) (rgL rfl) (rgL rfl) (rgL rfl) (rgL rfl) h
  · have h := h.2 c3
    refine V_ldc dX11_match_15 kc_R_205 ?_
    exact V_ireturn dX11_match_17 rfl ⟨_, _, rfl, hx, rfl, (rgL rfl), h⟩
def M_X10_fewestThatHold_55 (q : Int → Prop) (x : XM) : Nat → Int → Int → Int → Int → Int → Prop
  | 0, _, _, _, _, _ => False
  | n + 1, v2, v3, v4, v5, v6 =>
  ((v6 < 0 → q v4) ∧ (¬ (v6 < 0) → M_X10_has x v2 v6  (fun z5 => ((z5 = 0 → (Rg (v6 + (-1))) ∧ (M_X10_fewestThatHold_55 q x n) v2 v3 v4 v5 (v6 + (-1))) ∧ (¬ z5 = 0 → M_X0_mostHeld x (jand v2 (jxor (jshl 1 v6) (-1))) v3  (fun z8 => ((v5 ≤ z8 → (Rg (v6 + (-1))) ∧ (M_X10_fewestThatHold_55 q x n) (jand v2 (jxor (jshl 1 v6) (-1))) v3 v4 v5 (v6 + (-1))) ∧ (¬ (v5 ≤ z8) → M_X0_holds x v6  (fun z11 => (Rg (v3 + (-1))) ∧ (Rg (v5 - z11)) ∧ (Rg (v6 + (-1))) ∧ (M_X10_fewestThatHold_55 q x n) (jand v2 (jxor (jshl 1 v6) (-1))) (v3 + (-1)) (jor v4 (jshl 1 v6)) (v5 - z11) (v6 + (-1)))))))))))
def M_X10_fewestThatHold_37 (q : Int → Prop) (x : XM) (v1 : Int) (v2 : Int) (v3 : Int) : Prop :=
  ((v3 ≤ 12 → ∃ m : Nat, M_X10_fewestThatHold_55 q x m v2 v3 0 v1 11) ∧ (¬ (v3 ≤ 12) → q (-1)))
def M_X10_fewestThatHold_12 (q : Int → Prop) (x : XM) : Nat → Int → Int → Int → Prop
  | 0, _, _, _ => False
  | n + 1, v1, v2, v3 =>
  ((12 < v3 → M_X10_fewestThatHold_37 q x v1 v2 v3) ∧ (¬ (12 < v3) → M_X0_mostHeld x v2 v3  (fun z15 => ((v1 ≤ z15 → M_X10_fewestThatHold_37 q x v1 v2 v3) ∧ (¬ (v1 ≤ z15) → (Rg (v3 + 1)) ∧ (M_X10_fewestThatHold_12 q x n) v1 v2 (v3 + 1))))))
def M_X10_fewestThatHold (x : XM) (v1 : Int) (q : Int → Prop) : Prop :=
  M_X0_at x 6  (fun z1 => ∃ m : Nat, M_X10_fewestThatHold_12 q x m v1 z1 1)
set_option maxRecDepth 100000 in
theorem w_X10_fewestThatHold_55 {Γ : GE} {q : Int → Prop} {x : XM} (hx : WX x) : ∀ (n : Nat) (v2 : Int) (v3 : Int) (v4 : Int) (v5 : Int) (v6 : Int) , Rg v2 → Rg v3 → Rg v4 → Rg v5 → Rg v6 → M_X10_fewestThatHold_55 q x n v2 v3 v4 v5 v6 → V Γ 5 NF NF D_X10_fewestThatHold (QI Γ x q) 55 [.ref (gB Γ + 0), uu, vI v2, vI v3, vI v4, vI v5, vI v6] [] NF (mk Γ x) := by
  intro n
  induction n with
  | zero =>
    intro v2 v3 v4 v5 v6 r2 r3 r4 r5 r6 h
    rw [M_X10_fewestThatHold_55.eq_1] at h
    exact h.elim
  | succ n ih =>
    intro v2 v3 v4 v5 v6 r2 r3 r4 r5 r6 h
    rw [M_X10_fewestThatHold_55.eq_2] at h
    refine V_iload_6 dX10_fewestThatHold_55 ?_
    refine V_if_lt 124 dX10_fewestThatHold_57 (by decide) r6 ⟨fun c4 => ?_, fun c4 => ?_⟩
    · have h := h.1 c4
      refine V_iload_4 dX10_fewestThatHold_124 ?_
      exact V_ireturn dX10_fewestThatHold_126 rfl ⟨rfl, _, rfl, r4, h⟩
    · have h := h.2 c4
      refine V_iload_2 dX10_fewestThatHold_60 ?_
      refine V_iload_6 dX10_fewestThatHold_61 ?_
      refine V_cSI2 (My := D_X10_has) dX10_fewestThatHold_63 ml_T_195 ce_X10_has (Nat.le_refl _) (Nat.le_refl _) (by decide) (sumL rfl) (w_X10_has hx r2 r6 h) (fun z5 hz5 h => ?_)
      refine V_if_eq 118 dX10_fewestThatHold_66 (by decide) hz5 ⟨fun c6 => ?_, fun c6 => ?_⟩
      · have h := h.1 c6
        refine V_iinc_6 (a6 := uu) dX10_fewestThatHold_118 rfl ?_
        refine V_goto 55 dX10_fewestThatHold_121 (by decide) ?_
        obtain ⟨g7, h⟩ := h
        exact ih _ _ _ _ _ r2 r3 r4 r5 g7 h
      · have h := h.2 c6
        refine V_iload_2 dX10_fewestThatHold_69 ?_
        refine V_iconst dX10_fewestThatHold_70 ?_
        refine V_iload_6 dX10_fewestThatHold_71 ?_
        refine V_ishl dX10_fewestThatHold_73 ?_
        refine V_iconst dX10_fewestThatHold_74 ?_
        refine V_ixor dX10_fewestThatHold_75 ?_
        refine V_iand dX10_fewestThatHold_76 ?_
        refine V_istore_2 dX10_fewestThatHold_77 rfl rfl ?_
        refine V_aload_0 dX10_fewestThatHold_78 ?_
        refine V_gR dX10_fewestThatHold_79 fl_T_19 ly_0 (by decide) wr_0_1 ?_
        refine V_iload_2 dX10_fewestThatHold_82 ?_
        refine V_iload_3 dX10_fewestThatHold_83 ?_
        refine V_cVI2 (My := D_X0_mostHeld) dX10_fewestThatHold_84 ml_T_284 ce_X0_mostHeld ly_3 (by decide) cl_0 (by decide) (Nat.le_refl _) (Nat.le_refl _) (by decide) (sumL rfl) (w_X0_mostHeld hx (Rg.of _) r3 h) (fun z8 hz8 h => ?_)
        refine V_iload_5 dX10_fewestThatHold_87 ?_
        refine V_icmp_ge 118 dX10_fewestThatHold_89 (by decide) hz8 r5 ⟨fun c9 => ?_, fun c9 => ?_⟩
        · have h := h.1 c9
          refine V_iinc_6 (a6 := uu) dX10_fewestThatHold_118 rfl ?_
          refine V_goto 55 dX10_fewestThatHold_121 (by decide) ?_
          obtain ⟨g10, h⟩ := h
          exact ih _ _ _ _ _ (Rg.of _) r3 r4 r5 g10 h
        · have h := h.2 c9
          refine V_iload_4 dX10_fewestThatHold_92 ?_
          refine V_iconst dX10_fewestThatHold_94 ?_
          refine V_iload_6 dX10_fewestThatHold_95 ?_
          refine V_ishl dX10_fewestThatHold_97 ?_
          refine V_ior dX10_fewestThatHold_98 ?_
          refine V_istore_4 dX10_fewestThatHold_99 rfl rfl ?_
          refine V_iload_5 dX10_fewestThatHold_101 ?_
          refine V_aload_0 dX10_fewestThatHold_103 ?_
          refine V_gR dX10_fewestThatHold_104 fl_T_19 ly_0 (by decide) wr_0_1 ?_
          refine V_iload_6 dX10_fewestThatHold_107 ?_
          refine V_cVI1 (My := D_X0_holds) dX10_fewestThatHold_109 ml_T_157 ce_X0_holds ly_3 (by decide) cl_0 (by decide) (Nat.le_refl _) (Nat.le_refl _) (by decide) (sumL rfl) (w_X0_holds hx r6 h) (fun z11 hz11 h => ?_)
          refine V_isub dX10_fewestThatHold_112 ?_
          refine V_istore_5 dX10_fewestThatHold_113 rfl rfl ?_
          refine V_iinc_3 (a3 := uu) dX10_fewestThatHold_115 rfl ?_
          refine V_iinc_6 (a6 := uu) dX10_fewestThatHold_118 rfl ?_
          refine V_goto 55 dX10_fewestThatHold_121 (by decide) ?_
          obtain ⟨g12, h⟩ := h
          obtain ⟨g13, h⟩ := h
          obtain ⟨g14, h⟩ := h
          exact ih _ _ _ _ _ (Rg.of _) g12 (Rg.of _) g13 g14 h
set_option maxRecDepth 100000 in
theorem w_X10_fewestThatHold_37 {Γ : GE} {q : Int → Prop} {x : XM} (hx : WX x) : ∀ (v1 : Int) (v2 : Int) (v3 : Int) , Rg v1 → Rg v2 → Rg v3 → M_X10_fewestThatHold_37 q x v1 v2 v3 → V Γ 5 NF NF D_X10_fewestThatHold (QI Γ x q) 37 [.ref (gB Γ + 0), vI v1, vI v2, vI v3, uu, uu, uu] [] NF (mk Γ x) := by
  intro v1 v2 v3 r1 r2 r3 h
  unfold M_X10_fewestThatHold_37 at h
  refine V_iload_3 dX10_fewestThatHold_37 ?_
  refine V_bipush dX10_fewestThatHold_38 (by decide) ?_
  refine V_icmp_le 45 dX10_fewestThatHold_40 (by decide) r3 (rgL rfl) ⟨fun c3 => ?_, fun c3 => ?_⟩
  · have h := h.1 c3
    refine V_iconst dX10_fewestThatHold_45 ?_
    refine V_istore_4 dX10_fewestThatHold_46 rfl rfl ?_
    refine V_iload_1 dX10_fewestThatHold_48 ?_
    refine V_istore_5 dX10_fewestThatHold_49 rfl rfl ?_
    refine V_bipush dX10_fewestThatHold_51 (by decide) ?_
    refine V_istore_6 dX10_fewestThatHold_53 rfl rfl ?_
    refine V_fg_1 ?_
    obtain ⟨m9, h⟩ := h
    exact w_X10_fewestThatHold_55 hx m9 _ _ _ _ _ r2 r3 (rgL rfl) r1 (rgL rfl) h
  · have h := h.2 c3
    refine V_iconst dX10_fewestThatHold_43 ?_
    exact V_ireturn dX10_fewestThatHold_44 rfl ⟨rfl, _, rfl, (rgL rfl), h⟩
set_option maxRecDepth 100000 in
theorem w_X10_fewestThatHold_12 {Γ : GE} {q : Int → Prop} {x : XM} (hx : WX x) : ∀ (n : Nat) (v1 : Int) (v2 : Int) (v3 : Int) , Rg v1 → Rg v2 → Rg v3 → M_X10_fewestThatHold_12 q x n v1 v2 v3 → V Γ 5 NF NF D_X10_fewestThatHold (QI Γ x q) 12 [.ref (gB Γ + 0), vI v1, vI v2, vI v3, uu, uu, uu] [] NF (mk Γ x) := by
  intro n
  induction n with
  | zero =>
    intro v1 v2 v3 r1 r2 r3 h
    rw [M_X10_fewestThatHold_12.eq_1] at h
    exact h.elim
  | succ n ih =>
    intro v1 v2 v3 r1 r2 r3 h
    rw [M_X10_fewestThatHold_12.eq_2] at h
    refine V_iload_3 dX10_fewestThatHold_12 ?_
    refine V_bipush dX10_fewestThatHold_13 (by decide) ?_
    refine V_icmp_gt 37 dX10_fewestThatHold_15 (by decide) r3 (rgL rfl) ⟨fun c2 => ?_, fun c2 => ?_⟩
    · have h := h.1 c2
      exact w_X10_fewestThatHold_37 hx _ _ _ r1 r2 r3 h
    · have h := h.2 c2
      refine V_aload_0 dX10_fewestThatHold_18 ?_
      refine V_gR dX10_fewestThatHold_19 fl_T_19 ly_0 (by decide) wr_0_1 ?_
      refine V_iload_2 dX10_fewestThatHold_22 ?_
      refine V_iload_3 dX10_fewestThatHold_23 ?_
      refine V_cVI2 (My := D_X0_mostHeld) dX10_fewestThatHold_24 ml_T_284 ce_X0_mostHeld ly_3 (by decide) cl_0 (by decide) (Nat.le_refl _) (Nat.le_refl _) (by decide) (sumL rfl) (w_X0_mostHeld hx r2 r3 h) (fun z15 hz15 h => ?_)
      refine V_iload_1 dX10_fewestThatHold_27 ?_
      refine V_icmp_ge 37 dX10_fewestThatHold_28 (by decide) hz15 r1 ⟨fun c16 => ?_, fun c16 => ?_⟩
      · have h := h.1 c16
        exact w_X10_fewestThatHold_37 hx _ _ _ r1 r2 r3 h
      · have h := h.2 c16
        refine V_iinc_3 (a3 := uu) dX10_fewestThatHold_31 rfl ?_
        refine V_goto 12 dX10_fewestThatHold_34 (by decide) ?_
        obtain ⟨g17, h⟩ := h
        exact ih _ _ _ r1 r2 g17 h
set_option maxRecDepth 100000 in
theorem w_X10_fewestThatHold {Γ : GE} {x : XM} (hx : WX x) {v1 : Int} {q : Int → Prop} (r1 : Rg v1) (h : M_X10_fewestThatHold x v1 q) : CV Γ 5 NF NF D_X10_fewestThatHold [.ref (gB Γ + 0), vI v1] (mk Γ x) (QI Γ x q) := by
  refine CV.of rfl (cat_all rfl) (Nat.le_of_ble_eq_true rfl) ?_
  show V Γ 5 NF NF D_X10_fewestThatHold (QI Γ x q) 0 [.ref (gB Γ + 0), vI v1, uu, uu, uu, uu, uu] [] NF (mk Γ x)
  unfold M_X10_fewestThatHold at h
  refine V_aload_0 dX10_fewestThatHold_0 ?_
  refine V_gR dX10_fewestThatHold_1 fl_T_19 ly_0 (by decide) wr_0_1 ?_
  refine V_bipush dX10_fewestThatHold_4 (by decide) ?_
  refine V_cVI1 (My := D_X0_at) dX10_fewestThatHold_6 ml_T_124 ce_X0_at ly_3 (by decide) cl_0 (by decide) (Nat.le_refl _) (Nat.le_refl _) (by decide) (sumL rfl) (w_X0_at hx (rgL rfl) h) (fun z1 hz1 h => ?_)
  refine V_istore_2 dX10_fewestThatHold_9 rfl rfl ?_
  refine V_iconst dX10_fewestThatHold_10 ?_
  refine V_istore_3 dX10_fewestThatHold_11 rfl rfl ?_
  obtain ⟨m9, h⟩ := h
  exact w_X10_fewestThatHold_12 hx m9 _ _ _ r1 hz1 (rgL rfl) h
def M_X10_load (x : XM) (v1 : Int) (q : Int → Prop) : Prop :=
  ((v1 < 1 → q (-1000000002)) ∧ (¬ (v1 < 1) → ((999 < v1 → q (-1000000002)) ∧ (¬ (999 < v1) → M_X10_fewestThatHold x v1  (fun z3 => q z3)))))
set_option maxRecDepth 100000 in
theorem w_X10_load {Γ : GE} {x : XM} (hx : WX x) {v1 : Int} {q : Int → Prop} (r1 : Rg v1) (h : M_X10_load x v1 q) : CV Γ 6 NF NF D_X10_load [.ref (gB Γ + 0), vI v1] (mk Γ x) (QI Γ x q) := by
  refine CV.of rfl (cat_all rfl) (Nat.le_of_ble_eq_true rfl) ?_
  show V Γ 6 NF NF D_X10_load (QI Γ x q) 0 [.ref (gB Γ + 0), vI v1] [] NF (mk Γ x)
  unfold M_X10_load at h
  refine V_iload_1 dX10_load_0 ?_
  refine V_iconst dX10_load_1 ?_
  refine V_icmp_lt 20 dX10_load_2 (by decide) r1 (rgL rfl) ⟨fun c1 => ?_, fun c1 => ?_⟩
  · have h := h.1 c1
    refine V_ldc dX10_load_20 kc_T_78 ?_
    exact V_ireturn dX10_load_22 rfl ⟨rfl, _, rfl, (rgL rfl), h⟩
  · have h := h.2 c1
    refine V_iload_1 dX10_load_5 ?_
    refine V_sipush dX10_load_6 (by decide) ?_
    refine V_icmp_gt 20 dX10_load_9 (by decide) r1 (rgL rfl) ⟨fun c2 => ?_, fun c2 => ?_⟩
    · have h := h.1 c2
      refine V_ldc dX10_load_20 kc_T_78 ?_
      exact V_ireturn dX10_load_22 rfl ⟨rfl, _, rfl, (rgL rfl), h⟩
    · have h := h.2 c2
      refine V_aload_0 dX10_load_12 ?_
      refine V_iload_1 dX10_load_13 ?_
      refine V_cVI1 (My := D_X10_fewestThatHold) dX10_load_14 ml_T_239 ce_X10_fewestThatHold ly_0 (by decide) cl_10 (by decide) (Nat.le_refl _) (Nat.le_refl _) (by decide) (sumL rfl) (w_X10_fewestThatHold hx r1 h) (fun z3 hz3 h => ?_)
      refine V_goto 22 dX10_load_17 (by decide) ?_
      exact V_ireturn dX10_load_22 rfl ⟨rfl, _, rfl, hz3, h⟩
def M_X11_load_61 (q : Int → Prop) (K18 : Int → Int → Int → Prop) (x : XM) (v1 : Int) (v2 : Int) (v3 : Int) (s0 : Int) : Prop :=
  ((s0 = 0 → (Rg (v3 + 1)) ∧ K18 v1 v2 (v3 + 1)) ∧ (¬ s0 = 0 → M_X11_holdsOf x v3  (fun z8 => ((z8 < v1 → (Rg (v3 + 1)) ∧ K18 v1 v2 (v3 + 1)) ∧ (¬ (z8 < v1) → (Rg (v3 + 1)) ∧ K18 v1 v3 (v3 + 1))))))
def M_X11_load_60 (q : Int → Prop) (K18 : Int → Int → Int → Prop) (x : XM) (v1 : Int) (v2 : Int) (v3 : Int) : Prop :=
  M_X11_load_61 q K18 x v1 v2 v3 0
def M_X11_load_56 (q : Int → Prop) (K18 : Int → Int → Int → Prop) (x : XM) (v1 : Int) (v2 : Int) (v3 : Int) : Prop :=
  M_X11_load_61 q K18 x v1 v2 v3 1
def M_X11_load_18 (q : Int → Prop) (x : XM) : Nat → Int → Int → Int → Prop
  | 0, _, _, _ => False
  | n + 1, v1, v2, v3 =>
  (((jshl 1 (x 83 3)) ≤ v3 → q v2) ∧ (¬ ((jshl 1 (x 83 3)) ≤ v3) → M_X11_setIn x 0  (fun z4 => ((¬ (jand v3 (jxor z4 (-1))) = 0 → M_X11_load_60 q (M_X11_load_18 q x n) x v1 v2 v3) ∧ ((jand v3 (jxor z4 (-1))) = 0 → ((v2 = (-1) → M_X11_load_56 q (M_X11_load_18 q x n) x v1 v2 v3) ∧ (¬ v2 = (-1) → M_X11_bitsOf x v3  (fun z13 => M_X11_bitsOf x v2  (fun z14 => ((z14 ≤ z13 → M_X11_load_60 q (M_X11_load_18 q x n) x v1 v2 v3) ∧ (¬ (z14 ≤ z13) → M_X11_load_56 q (M_X11_load_18 q x n) x v1 v2 v3)))))))))))
def M_X11_load (x : XM) (v1 : Int) (q : Int → Prop) : Prop :=
  M_X11_in x v1 1 999  (fun z1 => ((¬ z1 = 0 → ∃ m : Nat, M_X11_load_18 q x m v1 (-1) 1) ∧ (z1 = 0 → q (-1000000002))))
set_option maxRecDepth 100000 in
theorem w_X11_load_61 {Γ : GE} {q : Int → Prop} {K18 : Int → Int → Int → Prop} {x : XM} (hx : WX x) (hK18 : ∀ (v1 : Int) (v2 : Int) (v3 : Int) , Rg v1 → Rg v2 → Rg v3 → K18 v1 v2 v3 → V Γ 3 NF NF D_X11_load (QI Γ x q) 18 [.ref (gB Γ + 83), vI v1, vI v2, vI v3, uu] [] NF (mk Γ x)) : ∀ (v1 : Int) (v2 : Int) (v3 : Int) (s0 : Int) , Rg v1 → Rg v2 → Rg v3 → Rg s0 → M_X11_load_61 q K18 x v1 v2 v3 s0 → V Γ 3 NF NF D_X11_load (QI Γ x q) 61 [.ref (gB Γ + 83), vI v1, vI v2, vI v3, uu] [vI s0] NF (mk Γ x) := by
  intro v1 v2 v3 s0 r1 r2 r3 rs0 h
  unfold M_X11_load_61 at h
  refine V_istore_4 dX11_load_61 rfl rfl ?_
  refine V_iload_4 dX11_load_63 ?_
  refine V_if_eq 81 dX11_load_65 (by decide) rs0 ⟨fun c6 => ?_, fun c6 => ?_⟩
  · have h := h.1 c6
    refine V_iload_2 dX11_load_81 ?_
    refine V_istore_2 dX11_load_82 rfl rfl ?_
    refine V_iinc_3 (a3 := uu) dX11_load_83 rfl ?_
    refine V_goto 18 dX11_load_86 (by decide) ?_
    obtain ⟨g7, h⟩ := h
    refine V_fg_4 ?_
    exact hK18 _ _ _ r1 r2 g7 h
  · have h := h.2 c6
    refine V_aload_0 dX11_load_68 ?_
    refine V_iload_3 dX11_load_69 ?_
    refine V_cVI1 (My := D_X11_holdsOf) dX11_load_70 ml_R_186 ce_X11_holdsOf ly_83 (by decide) cl_11 (by decide) (Nat.le_refl _) (Nat.le_refl _) (by decide) (sumL rfl) (w_X11_holdsOf hx r3 h) (fun z8 hz8 h => ?_)
    refine V_iload_1 dX11_load_73 ?_
    refine V_icmp_lt 81 dX11_load_74 (by decide) hz8 r1 ⟨fun c9 => ?_, fun c9 => ?_⟩
    · have h := h.1 c9
      refine V_iload_2 dX11_load_81 ?_
      refine V_istore_2 dX11_load_82 rfl rfl ?_
      refine V_iinc_3 (a3 := uu) dX11_load_83 rfl ?_
      refine V_goto 18 dX11_load_86 (by decide) ?_
      obtain ⟨g10, h⟩ := h
      refine V_fg_4 ?_
      exact hK18 _ _ _ r1 r2 g10 h
    · have h := h.2 c9
      refine V_iload_3 dX11_load_77 ?_
      refine V_goto 82 dX11_load_78 (by decide) ?_
      refine V_istore_2 dX11_load_82 rfl rfl ?_
      refine V_iinc_3 (a3 := uu) dX11_load_83 rfl ?_
      refine V_goto 18 dX11_load_86 (by decide) ?_
      obtain ⟨g11, h⟩ := h
      refine V_fg_4 ?_
      exact hK18 _ _ _ r1 r3 g11 h
set_option maxRecDepth 100000 in
theorem w_X11_load_60 {Γ : GE} {q : Int → Prop} {K18 : Int → Int → Int → Prop} {x : XM} (hx : WX x) (hK18 : ∀ (v1 : Int) (v2 : Int) (v3 : Int) , Rg v1 → Rg v2 → Rg v3 → K18 v1 v2 v3 → V Γ 3 NF NF D_X11_load (QI Γ x q) 18 [.ref (gB Γ + 83), vI v1, vI v2, vI v3, uu] [] NF (mk Γ x)) : ∀ (v1 : Int) (v2 : Int) (v3 : Int) , Rg v1 → Rg v2 → Rg v3 → M_X11_load_60 q K18 x v1 v2 v3 → V Γ 3 NF NF D_X11_load (QI Γ x q) 60 [.ref (gB Γ + 83), vI v1, vI v2, vI v3, uu] [] NF (mk Γ x) := by
  intro v1 v2 v3 r1 r2 r3 h
  unfold M_X11_load_60 at h
  refine V_iconst dX11_load_60 ?_
  exact w_X11_load_61 hx (hK18) _ _ _ _ r1 r2 r3 (rgL rfl) h
set_option maxRecDepth 100000 in
theorem w_X11_load_56 {Γ : GE} {q : Int → Prop} {K18 : Int → Int → Int → Prop} {x : XM} (hx : WX x) (hK18 : ∀ (v1 : Int) (v2 : Int) (v3 : Int) , Rg v1 → Rg v2 → Rg v3 → K18 v1 v2 v3 → V Γ 3 NF NF D_X11_load (QI Γ x q) 18 [.ref (gB Γ + 83), vI v1, vI v2, vI v3, uu] [] NF (mk Γ x)) : ∀ (v1 : Int) (v2 : Int) (v3 : Int) , Rg v1 → Rg v2 → Rg v3 → M_X11_load_56 q K18 x v1 v2 v3 → V Γ 3 NF NF D_X11_load (QI Γ x q) 56 [.ref (gB Γ + 83), vI v1, vI v2, vI v3, uu] [] NF (mk Γ x) := by
  intro v1 v2 v3 r1 r2 r3 h
  unfold M_X11_load_56 at h
  refine V_iconst dX11_load_56 ?_
  refine V_goto 61 dX11_load_57 (by decide) ?_
  exact w_X11_load_61 hx (hK18) _ _ _ _ r1 r2 r3 (rgL rfl) h
set_option maxRecDepth 100000 in
theorem w_X11_load_18 {Γ : GE} {q : Int → Prop} {x : XM} (hx : WX x) : ∀ (n : Nat) (v1 : Int) (v2 : Int) (v3 : Int) , Rg v1 → Rg v2 → Rg v3 → M_X11_load_18 q x n v1 v2 v3 → V Γ 3 NF NF D_X11_load (QI Γ x q) 18 [.ref (gB Γ + 83), vI v1, vI v2, vI v3, uu] [] NF (mk Γ x) := by
  intro n
  induction n with
  | zero =>
    intro v1 v2 v3 r1 r2 r3 h
    rw [M_X11_load_18.eq_1] at h
    exact h.elim
  | succ n ih =>
    intro v1 v2 v3 r1 r2 r3 h
    rw [M_X11_load_18.eq_2] at h
    refine V_iload_3 dX11_load_18 ?_
    refine V_iconst dX11_load_19 ?_
    refine V_aload_0 dX11_load_20 ?_
    refine V_gI dX11_load_21 fl_R_145 ly_83 (by decide) wn_83_3 ?_
    refine V_ishl dX11_load_24 ?_
    refine V_icmp_ge 89 dX11_load_25 (by decide) r3 (Rg.of _) ⟨fun c3 => ?_, fun c3 => ?_⟩
    · have h := h.1 c3
      refine V_iload_2 dX11_load_89 ?_
      exact V_ireturn dX11_load_90 rfl ⟨rfl, _, rfl, r2, h⟩
    · have h := h.2 c3
      refine V_iload_3 dX11_load_28 ?_
      refine V_aload_0 dX11_load_29 ?_
      refine V_iconst dX11_load_30 ?_
      refine V_cVI1 (My := D_X11_setIn) dX11_load_31 ml_R_183 ce_X11_setIn ly_83 (by decide) cl_11 (by decide) (Nat.le_refl _) (Nat.le_refl _) (by decide) (sumL rfl) (w_X11_setIn hx (rgL rfl) h) (fun z4 hz4 h => ?_)
      refine V_iconst dX11_load_34 ?_
      refine V_ixor dX11_load_35 ?_
      refine V_iand dX11_load_36 ?_
      refine V_if_ne 60 dX11_load_37 (by decide) (Rg.of _) ⟨fun c5 => ?_, fun c5 => ?_⟩
      · have h := h.1 c5
        exact w_X11_load_60 hx (ih) _ _ _ r1 r2 r3 h
      · have h := h.2 c5
        refine V_iload_2 dX11_load_40 ?_
        refine V_iconst dX11_load_41 ?_
        refine V_icmp_eq 56 dX11_load_42 (by decide) r2 (rgL rfl) ⟨fun c12 => ?_, fun c12 => ?_⟩
        · have h := h.1 c12
          exact w_X11_load_56 hx (ih) _ _ _ r1 r2 r3 h
        · have h := h.2 c12
          refine V_iload_3 dX11_load_45 ?_
          refine V_cSI1 (My := D_X11_bitsOf) dX11_load_46 ml_R_233 ce_X11_bitsOf (Nat.le_refl _) (Nat.le_refl _) (by decide) (sumL rfl) (w_X11_bitsOf hx r3 h) (fun z13 hz13 h => ?_)
          refine V_iload_2 dX11_load_49 ?_
          refine V_cSI1 (My := D_X11_bitsOf) dX11_load_50 ml_R_233 ce_X11_bitsOf (Nat.le_refl _) (Nat.le_refl _) (by decide) (sumL rfl) (w_X11_bitsOf hx r2 h) (fun z14 hz14 h => ?_)
          refine V_icmp_ge 60 dX11_load_53 (by decide) hz13 hz14 ⟨fun c15 => ?_, fun c15 => ?_⟩
          · have h := h.1 c15
            exact w_X11_load_60 hx (ih) _ _ _ r1 r2 r3 h
          · have h := h.2 c15
            exact w_X11_load_56 hx (ih) _ _ _ r1 r2 r3 h
set_option maxRecDepth 100000 in
theorem w_X11_load {Γ : GE} {x : XM} (hx : WX x) {v1 : Int} {q : Int → Prop} (r1 : Rg v1) (h : M_X11_load x v1 q) : CV Γ 3 NF NF D_X11_load [.ref (gB Γ + 83), vI v1] (mk Γ x) (QI Γ x q) := by
  refine CV.of rfl (cat_all rfl) (Nat.le_of_ble_eq_true rfl) ?_
  show V Γ 3 NF NF D_X11_load (QI Γ x q) 0 [.ref (gB Γ + 83), vI v1, uu, uu, uu] [] NF (mk Γ x)
  unfold M_X11_load at h
  refine V_iload_1 dX11_load_0 ?_
  refine V_iconst dX11_load_1 ?_
  refine V_sipush dX11_load_2 (by decide) ?_
  refine V_cSI3 (My := D_X11_in) dX11_load_5 ml_R_73 ce_X11_in (Nat.le_refl _) (Nat.le_refl _) (by decide) (sumL rfl) (w_X11_in hx r1 (rgL rfl) (rgL rfl) h) (fun z1 hz1 h => ?_)
  refine V_if_ne 14 dX11_load_8 (by decide) hz1 ⟨fun c2 => ?_, fun c2 => ?_⟩
  · have h := h.1 c2
    refine V_iconst dX11_load_14 ?_
    refine V_istore_2 dX11_load_15 rfl rfl ?_
    refine V_iconst dX11_load_16 ?_
    refine V_istore_3 dX11_load_17 rfl rfl ?_
    obtain ⟨m9, h⟩ := h
    exact w_X11_load_18 hx m9 _ _ _ r1 (rgL rfl) (rgL rfl) h
  · have h := h.2 c2
    refine V_ldc dX11_load_11 kc_R_77 ?_
    exact V_ireturn dX11_load_13 rfl ⟨rfl, _, rfl, (rgL rfl), h⟩
