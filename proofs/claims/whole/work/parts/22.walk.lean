def M_J6_numberOfTrailingZeros_0f7a4_62 (q : Int → Prop) (x : XM) (v0 : Int) (v1 : Int) : Prop :=
  ((v0 ≤ 4 → (Rg (v1 + (jushr v0 1))) ∧ q (v1 + (jushr v0 1))) ∧ (¬ (v0 ≤ 4) → (Rg ((v1 + 2) + (jushr (jushr v0 2) 1))) ∧ q ((v1 + 2) + (jushr (jushr v0 2) 1))))
def M_J6_numberOfTrailingZeros_0f7a4_49 (q : Int → Prop) (x : XM) (v0 : Int) (v1 : Int) : Prop :=
  ((v0 ≤ 16 → M_J6_numberOfTrailingZeros_0f7a4_62 q x v0 v1) ∧ (¬ (v0 ≤ 16) → (Rg (v1 + 4)) ∧ M_J6_numberOfTrailingZeros_0f7a4_62 q x (jushr v0 4) (v1 + 4)))
def M_J6_numberOfTrailingZeros_0f7a4_34 (q : Int → Prop) (x : XM) (v0 : Int) (v1 : Int) : Prop :=
  ((v0 ≤ 256 → M_J6_numberOfTrailingZeros_0f7a4_49 q x v0 v1) ∧ (¬ (v0 ≤ 256) → (Rg (v1 + 8)) ∧ M_J6_numberOfTrailingZeros_0f7a4_49 q x (jushr v0 8) (v1 + 8)))
def M_J6_numberOfTrailingZeros_0f7a4 (x : XM) (v0 : Int) (q : Int → Prop) : Prop :=
  ((0 < (jand (jxor v0 (-1)) (v0 - 1)) → (((jand (jxor v0 (-1)) (v0 - 1)) ≤ 65536 → M_J6_numberOfTrailingZeros_0f7a4_34 q x (jand (jxor v0 (-1)) (v0 - 1)) 1) ∧ (¬ ((jand (jxor v0 (-1)) (v0 - 1)) ≤ 65536) → (Rg (1 + 16)) ∧ M_J6_numberOfTrailingZeros_0f7a4_34 q x (jushr (jand (jxor v0 (-1)) (v0 - 1)) 16) (1 + 16)))) ∧ (¬ (0 < (jand (jxor v0 (-1)) (v0 - 1))) → q (jand (jand (jxor v0 (-1)) (v0 - 1)) 32)))
set_option maxRecDepth 100000 in
theorem w_J6_numberOfTrailingZeros_0f7a4_62 {Γ : GE} {q : Int → Prop} {x : XM} (hx : WX x) : ∀ (v0 : Int) (v1 : Int) , Rg v0 → Rg v1 → M_J6_numberOfTrailingZeros_0f7a4_62 q x v0 v1 → V Γ 0 NF NF D_J6_numberOfTrailingZeros_0f7a4 (QI Γ x q) 62 [vI v0, vI v1] [] NF (mk Γ x) := by
  intro v0 v1 r0 r1 h
  unfold M_J6_numberOfTrailingZeros_0f7a4_62 at h
  refine V_iload_0 dJ6_numberOfTrailingZeros_0f7a4_62 ?_
  refine V_iconst dJ6_numberOfTrailingZeros_0f7a4_63 ?_
  refine V_icmp_le 74 dJ6_numberOfTrailingZeros_0f7a4_64 (by decide) r0 (rgL rfl) ⟨fun c5 => ?_, fun c5 => ?_⟩
  · have h := h.1 c5
    refine V_iload_1 dJ6_numberOfTrailingZeros_0f7a4_74 ?_
    refine V_iload_0 dJ6_numberOfTrailingZeros_0f7a4_75 ?_
    refine V_iconst dJ6_numberOfTrailingZeros_0f7a4_76 ?_
    refine V_iushr dJ6_numberOfTrailingZeros_0f7a4_77 ?_
    refine V_iadd dJ6_numberOfTrailingZeros_0f7a4_78 ?_
    obtain ⟨g6, h⟩ := h
    exact V_ireturn dJ6_numberOfTrailingZeros_0f7a4_79 rfl ⟨rfl, _, rfl, g6, h⟩
  · have h := h.2 c5
    refine V_iinc_1 (a1 := uu) dJ6_numberOfTrailingZeros_0f7a4_67 rfl ?_
    refine V_iload_0 dJ6_numberOfTrailingZeros_0f7a4_70 ?_
    refine V_iconst dJ6_numberOfTrailingZeros_0f7a4_71 ?_
    refine V_iushr dJ6_numberOfTrailingZeros_0f7a4_72 ?_
    refine V_istore_0 dJ6_numberOfTrailingZeros_0f7a4_73 rfl ?_
    refine V_iload_1 dJ6_numberOfTrailingZeros_0f7a4_74 ?_
    refine V_iload_0 dJ6_numberOfTrailingZeros_0f7a4_75 ?_
    refine V_iconst dJ6_numberOfTrailingZeros_0f7a4_76 ?_
    refine V_iushr dJ6_numberOfTrailingZeros_0f7a4_77 ?_
    refine V_iadd dJ6_numberOfTrailingZeros_0f7a4_78 ?_
    obtain ⟨g7, h⟩ := h
    exact V_ireturn dJ6_numberOfTrailingZeros_0f7a4_79 rfl ⟨rfl, _, rfl, g7, h⟩
set_option maxRecDepth 100000 in
theorem w_J6_numberOfTrailingZeros_0f7a4_49 {Γ : GE} {q : Int → Prop} {x : XM} (hx : WX x) : ∀ (v0 : Int) (v1 : Int) , Rg v0 → Rg v1 → M_J6_numberOfTrailingZeros_0f7a4_49 q x v0 v1 → V Γ 0 NF NF D_J6_numberOfTrailingZeros_0f7a4 (QI Γ x q) 49 [vI v0, vI v1] [] NF (mk Γ x) := by
  intro v0 v1 r0 r1 h
  unfold M_J6_numberOfTrailingZeros_0f7a4_49 at h
  refine V_iload_0 dJ6_numberOfTrailingZeros_0f7a4_49 ?_
  refine V_bipush dJ6_numberOfTrailingZeros_0f7a4_50 (by decide) ?_
  refine V_icmp_le 62 dJ6_numberOfTrailingZeros_0f7a4_52 (by decide) r0 (rgL rfl) ⟨fun c4 => ?_, fun c4 => ?_⟩
  · have h := h.1 c4
    exact w_J6_numberOfTrailingZeros_0f7a4_62 hx _ _ r0 r1 h
  · have h := h.2 c4
    refine V_iinc_1 (a1 := uu) dJ6_numberOfTrailingZeros_0f7a4_55 rfl ?_
    refine V_iload_0 dJ6_numberOfTrailingZeros_0f7a4_58 ?_
    refine V_iconst dJ6_numberOfTrailingZeros_0f7a4_59 ?_
    refine V_iushr dJ6_numberOfTrailingZeros_0f7a4_60 ?_
    refine V_istore_0 dJ6_numberOfTrailingZeros_0f7a4_61 rfl ?_
    obtain ⟨g8, h⟩ := h
    exact w_J6_numberOfTrailingZeros_0f7a4_62 hx _ _ (Rg.of _) g8 h
set_option maxRecDepth 100000 in
theorem w_J6_numberOfTrailingZeros_0f7a4_34 {Γ : GE} {q : Int → Prop} {x : XM} (hx : WX x) : ∀ (v0 : Int) (v1 : Int) , Rg v0 → Rg v1 → M_J6_numberOfTrailingZeros_0f7a4_34 q x v0 v1 → V Γ 0 NF NF D_J6_numberOfTrailingZeros_0f7a4 (QI Γ x q) 34 [vI v0, vI v1] [] NF (mk Γ x) := by
  intro v0 v1 r0 r1 h
  unfold M_J6_numberOfTrailingZeros_0f7a4_34 at h
  refine V_iload_0 dJ6_numberOfTrailingZeros_0f7a4_34 ?_
  refine V_sipush dJ6_numberOfTrailingZeros_0f7a4_35 (by decide) ?_
  refine V_icmp_le 49 dJ6_numberOfTrailingZeros_0f7a4_38 (by decide) r0 (rgL rfl) ⟨fun c3 => ?_, fun c3 => ?_⟩
  · have h := h.1 c3
    exact w_J6_numberOfTrailingZeros_0f7a4_49 hx _ _ r0 r1 h
  · have h := h.2 c3
    refine V_iinc_1 (a1 := uu) dJ6_numberOfTrailingZeros_0f7a4_41 rfl ?_
    refine V_iload_0 dJ6_numberOfTrailingZeros_0f7a4_44 ?_
    refine V_bipush dJ6_numberOfTrailingZeros_0f7a4_45 (by decide) ?_
    refine V_iushr dJ6_numberOfTrailingZeros_0f7a4_47 ?_
    refine V_istore_0 dJ6_numberOfTrailingZeros_0f7a4_48 rfl ?_
    obtain ⟨g9, h⟩ := h
    exact w_J6_numberOfTrailingZeros_0f7a4_49 hx _ _ (Rg.of _) g9 h
set_option maxRecDepth 100000 in
theorem w_J6_numberOfTrailingZeros_0f7a4 {Γ : GE} {x : XM} (hx : WX x) {v0 : Int} {q : Int → Prop} (r0 : Rg v0) (h : M_J6_numberOfTrailingZeros_0f7a4 x v0 q) : CV Γ 0 NF NF D_J6_numberOfTrailingZeros_0f7a4 [vI v0] (mk Γ x) (QI Γ x q) := by
  refine CV.ofF (by decide +kernel) (cat_all rfl) (Nat.le_of_ble_eq_true rfl) ?_
  show V Γ 0 NF NF D_J6_numberOfTrailingZeros_0f7a4 (QI Γ x q) 0 [vI v0, uu] [] NF (mk Γ x)
  unfold M_J6_numberOfTrailingZeros_0f7a4 at h
  refine V_iload_0 dJ6_numberOfTrailingZeros_0f7a4_0 ?_
  refine V_iconst dJ6_numberOfTrailingZeros_0f7a4_1 ?_
  refine V_ixor dJ6_numberOfTrailingZeros_0f7a4_2 ?_
  refine V_iload_0 dJ6_numberOfTrailingZeros_0f7a4_3 ?_
  refine V_iconst dJ6_numberOfTrailingZeros_0f7a4_4 ?_
  refine V_isub dJ6_numberOfTrailingZeros_0f7a4_5 ?_
  refine V_iand dJ6_numberOfTrailingZeros_0f7a4_6 ?_
  refine V_istore_0 dJ6_numberOfTrailingZeros_0f7a4_7 rfl ?_
  refine V_iload_0 dJ6_numberOfTrailingZeros_0f7a4_8 ?_
  refine V_if_gt 17 dJ6_numberOfTrailingZeros_0f7a4_9 (by decide) (Rg.of _) ⟨fun c1 => ?_, fun c1 => ?_⟩
  · have h := h.1 c1
    refine V_iconst dJ6_numberOfTrailingZeros_0f7a4_17 ?_
    refine V_istore_1 dJ6_numberOfTrailingZeros_0f7a4_18 rfl rfl ?_
    refine V_iload_0 dJ6_numberOfTrailingZeros_0f7a4_19 ?_
    refine V_ldcw dJ6_numberOfTrailingZeros_0f7a4_20 kc_JInteger_264 ?_
    refine V_icmp_le 34 dJ6_numberOfTrailingZeros_0f7a4_23 (by decide) (Rg.of _) (rgL rfl) ⟨fun c2 => ?_, fun c2 => ?_⟩
    · have h := h.1 c2
      exact w_J6_numberOfTrailingZeros_0f7a4_34 hx _ _ (Rg.of _) (rgL rfl) h
    · have h := h.2 c2
      refine V_iinc_1 (a1 := uu) dJ6_numberOfTrailingZeros_0f7a4_26 rfl ?_
      refine V_iload_0 dJ6_numberOfTrailingZeros_0f7a4_29 ?_
      refine V_bipush dJ6_numberOfTrailingZeros_0f7a4_30 (by decide) ?_
      refine V_iushr dJ6_numberOfTrailingZeros_0f7a4_32 ?_
      refine V_istore_0 dJ6_numberOfTrailingZeros_0f7a4_33 rfl ?_
      obtain ⟨g10, h⟩ := h
      exact w_J6_numberOfTrailingZeros_0f7a4_34 hx _ _ (Rg.of _) g10 h
  · have h := h.2 c1
    refine V_iload_0 dJ6_numberOfTrailingZeros_0f7a4_12 ?_
    refine V_bipush dJ6_numberOfTrailingZeros_0f7a4_13 (by decide) ?_
    refine V_iand dJ6_numberOfTrailingZeros_0f7a4_15 ?_
    exact V_ireturn dJ6_numberOfTrailingZeros_0f7a4_16 rfl ⟨rfl, _, rfl, (Rg.of _), h⟩
def M_X10_has (x : XM) (v0 : Int) (v1 : Int) (q : Int → Prop) : Prop :=
  ((¬ (jand (jshr v0 v1) 1) = 1 → q 0) ∧ ((jand (jshr v0 v1) 1) = 1 → q 1))
set_option maxRecDepth 100000 in
theorem w_X10_has {Γ : GE} {x : XM} (hx : WX x) {v0 v1 : Int} {q : Int → Prop} (r0 : Rg v0) (r1 : Rg v1) (h : M_X10_has x v0 v1 q) : CV Γ 0 NF NF D_X10_has [vI v0, vI v1] (mk Γ x) (QI Γ x q) := by
  refine CV.of rfl (cat_all rfl) (Nat.le_of_ble_eq_true rfl) ?_
  show V Γ 0 NF NF D_X10_has (QI Γ x q) 0 [vI v0, vI v1] [] NF (mk Γ x)
  unfold M_X10_has at h
  refine V_iload_0 dX10_has_0 ?_
  refine V_iload_1 dX10_has_1 ?_
  refine V_ishr dX10_has_2 ?_
  refine V_iconst dX10_has_3 ?_
  refine V_iand dX10_has_4 ?_
  refine V_iconst dX10_has_5 ?_
  refine V_icmp_ne 13 dX10_has_6 (by decide) (Rg.of _) (rgL rfl) ⟨fun c1 => ?_, fun c1 => ?_⟩
  · have h := h.1 c1
    refine V_iconst dX10_has_13 ?_
    exact V_zreturn dX10_has_14 rfl (Or.inl rfl) ⟨rfl, _, rfl, (rgL rfl), h⟩
  · have h := h.2 c1
    refine V_iconst dX10_has_9 ?_
    refine V_goto 14 dX10_has_10 (by decide) ?_
    exact V_zreturn dX10_has_14 rfl (Or.inr rfl) ⟨rfl, _, rfl, (rgL rfl), h⟩
def M_X0_holds (x : XM) (v1 : Int) (q : Int → Prop) : Prop :=
  M_X0_mark x v1 0  (fun z1 => M_X0_mark x v1 1  (fun z2 => M_X0_mark x v1 3  (fun z3 => ((¬ z3 = 1 → (Rg ((z1 + 1) * z2)) ∧ q ((z1 + 1) * z2)) ∧ (z3 = 1 → (Rg (((z1 + 1) * z2) - 5)) ∧ M_J9_max_7cf53 x 0 (((z1 + 1) * z2) - 5)  (fun z7 => q z7))))))
set_option maxRecDepth 100000 in
theorem w_X0_holds {Γ : GE} {x : XM} (hx : WX x) {v1 : Int} {q : Int → Prop} (r1 : Rg v1) (h : M_X0_holds x v1 q) : CV Γ 2 NF NF D_X0_holds [.ref (gB Γ + 3), vI v1] (mk Γ x) (QI Γ x q) := by
  refine CV.of rfl (cat_all rfl) (Nat.le_of_ble_eq_true rfl) ?_
  show V Γ 2 NF NF D_X0_holds (QI Γ x q) 0 [.ref (gB Γ + 3), vI v1, uu] [] NF (mk Γ x)
  unfold M_X0_holds at h
  refine V_aload_0 dX0_holds_0 ?_
  refine V_iload_1 dX0_holds_1 ?_
  refine V_iconst dX0_holds_2 ?_
  refine V_cVI2 (My := D_X0_mark) dX0_holds_3 ml_Bench_40 ce_X0_mark ly_3 (by decide) cl_0 (by decide) (Nat.le_refl _) (Nat.le_refl _) (by decide) (sumL rfl) (w_X0_mark hx r1 (rgL rfl) h) (fun z1 hz1 h => ?_)
  refine V_iconst dX0_holds_6 ?_
  refine V_iadd dX0_holds_7 ?_
  refine V_aload_0 dX0_holds_8 ?_
  refine V_iload_1 dX0_holds_9 ?_
  refine V_iconst dX0_holds_10 ?_
  refine V_cVI2 (My := D_X0_mark) dX0_holds_11 ml_Bench_40 ce_X0_mark ly_3 (by decide) cl_0 (by decide) (Nat.le_refl _) (Nat.le_refl _) (by decide) (sumL rfl) (w_X0_mark hx r1 (rgL rfl) h) (fun z2 hz2 h => ?_)
  refine V_imul dX0_holds_14 ?_
  refine V_istore_2 dX0_holds_15 rfl rfl ?_
  refine V_aload_0 dX0_holds_16 ?_
  refine V_iload_1 dX0_holds_17 ?_
  refine V_iconst dX0_holds_18 ?_
  refine V_cVI2 (My := D_X0_mark) dX0_holds_19 ml_Bench_40 ce_X0_mark ly_3 (by decide) cl_0 (by decide) (Nat.le_refl _) (Nat.le_refl _) (by decide) (sumL rfl) (w_X0_mark hx r1 (rgL rfl) h) (fun z3 hz3 h => ?_)
  refine V_iconst dX0_holds_22 ?_
  refine V_icmp_ne 36 dX0_holds_23 (by decide) hz3 (rgL rfl) ⟨fun c4 => ?_, fun c4 => ?_⟩
  · have h := h.1 c4
    refine V_iload_2 dX0_holds_36 ?_
    obtain ⟨g5, h⟩ := h
    exact V_ireturn dX0_holds_37 rfl ⟨rfl, _, rfl, g5, h⟩
  · have h := h.2 c4
    refine V_iconst dX0_holds_26 ?_
    refine V_iload_2 dX0_holds_27 ?_
    refine V_iconst dX0_holds_28 ?_
    refine V_isub dX0_holds_29 ?_
    obtain ⟨g6, h⟩ := h
    refine V_cSI2 (My := D_J9_max_7cf53) dX0_holds_30 ml_Bench_44 ce_J9_max_7cf53 (Nat.le_refl _) (Nat.le_refl _) (by decide) (sumL rfl) (w_J9_max_7cf53 hx (rgL rfl) g6 h) (fun z7 hz7 h => ?_)
    refine V_goto 37 dX0_holds_33 (by decide) ?_
    exact V_ireturn dX0_holds_37 rfl ⟨rfl, _, rfl, hz7, h⟩
def M_X0_strongest_9 (q : Int → Prop) (x : XM) : Nat → Int → Int → Int → Prop
  | 0, _, _, _ => False
  | n + 1, v1, v2, v3 =>
  M_X0_count x 1  (fun z2 => ((z2 ≤ v3 → q v2) ∧ (¬ (z2 ≤ v3) → M_X10_has x v1 v3  (fun z4 => ((z4 = 0 → (Rg (v3 + 1)) ∧ (M_X0_strongest_9 q x n) v1 v2 (v3 + 1)) ∧ (¬ z4 = 0 → M_X0_holds x v3  (fun z7 => M_X0_holds x v2  (fun z8 => ((z7 ≤ z8 → (Rg (v3 + 1)) ∧ (M_X0_strongest_9 q x n) v1 v2 (v3 + 1)) ∧ (¬ (z7 ≤ z8) → (Rg (v3 + 1)) ∧ (M_X0_strongest_9 q x n) v1 v3 (v3 + 1)))))))))))
def M_X0_strongest (x : XM) (v1 : Int) (q : Int → Prop) : Prop :=
  M_J6_numberOfTrailingZeros_0f7a4 x v1  (fun z1 => (Rg (z1 + 1)) ∧ ∃ m : Nat, M_X0_strongest_9 q x m v1 z1 (z1 + 1))
set_option maxRecDepth 100000 in
theorem w_X0_strongest_9 {Γ : GE} {q : Int → Prop} {x : XM} (hx : WX x) : ∀ (n : Nat) (v1 : Int) (v2 : Int) (v3 : Int) , Rg v1 → Rg v2 → Rg v3 → M_X0_strongest_9 q x n v1 v2 v3 → V Γ 3 NF NF D_X0_strongest (QI Γ x q) 9 [.ref (gB Γ + 3), vI v1, vI v2, vI v3] [] NF (mk Γ x) := by
  intro n
  induction n with
  | zero =>
    intro v1 v2 v3 r1 r2 r3 h
    rw [M_X0_strongest_9.eq_1] at h
    exact h.elim
  | succ n ih =>
    intro v1 v2 v3 r1 r2 r3 h
    rw [M_X0_strongest_9.eq_2] at h
    refine V_iload_3 dX0_strongest_9 ?_
    refine V_aload_0 dX0_strongest_10 ?_
    refine V_iconst dX0_strongest_11 ?_
    refine V_cVI1 (My := D_X0_count) dX0_strongest_12 ml_Bench_29 ce_X0_count ly_3 (by decide) cl_0 (by decide) (Nat.le_refl _) (Nat.le_refl _) (by decide) (sumL rfl) (w_X0_count hx (rgL rfl) h) (fun z2 hz2 h => ?_)
    refine V_icmp_ge 47 dX0_strongest_15 (by decide) r3 hz2 ⟨fun c3 => ?_, fun c3 => ?_⟩
    · have h := h.1 c3
      refine V_iload_2 dX0_strongest_47 ?_
      exact V_ireturn dX0_strongest_48 rfl ⟨rfl, _, rfl, r2, h⟩
    · have h := h.2 c3
      refine V_iload_1 dX0_strongest_18 ?_
      refine V_iload_3 dX0_strongest_19 ?_
      refine V_cNI2 (My := D_X10_has) dX0_strongest_20 (by decide) ce_X10_has (Nat.le_refl _) (Nat.le_refl _) (by decide) (sumL rfl) (w_X10_has hx r1 r3 h) (fun z4 hz4 h => ?_)
      refine V_if_eq 41 dX0_strongest_23 (by decide) hz4 ⟨fun c5 => ?_, fun c5 => ?_⟩
      · have h := h.1 c5
        refine V_iinc_3 (a3 := uu) dX0_strongest_41 rfl ?_
        refine V_goto 9 dX0_strongest_44 (by decide) ?_
        obtain ⟨g6, h⟩ := h
        exact ih _ _ _ r1 r2 g6 h
      · have h := h.2 c5
        refine V_aload_0 dX0_strongest_26 ?_
        refine V_iload_3 dX0_strongest_27 ?_
        refine V_cVI1 (My := D_X0_holds) dX0_strongest_28 ml_Bench_92 ce_X0_holds ly_3 (by decide) cl_0 (by decide) (Nat.le_refl _) (Nat.le_refl _) (by decide) (sumL rfl) (w_X0_holds hx r3 h) (fun z7 hz7 h => ?_)
        refine V_aload_0 dX0_strongest_31 ?_
        refine V_iload_2 dX0_strongest_32 ?_
        refine V_cVI1 (My := D_X0_holds) dX0_strongest_33 ml_Bench_92 ce_X0_holds ly_3 (by decide) cl_0 (by decide) (Nat.le_refl _) (Nat.le_refl _) (by decide) (sumL rfl) (w_X0_holds hx r2 h) (fun z8 hz8 h => ?_)
        refine V_icmp_le 41 dX0_strongest_36 (by decide) hz7 hz8 ⟨fun c9 => ?_, fun c9 => ?_⟩
        · have h := h.1 c9
          refine V_iinc_3 (a3 := uu) dX0_strongest_41 rfl ?_
          refine V_goto 9 dX0_strongest_44 (by decide) ?_
          obtain ⟨g10, h⟩ := h
          exact ih _ _ _ r1 r2 g10 h
        · have h := h.2 c9
          refine V_iload_3 dX0_strongest_39 ?_
          refine V_istore_2 dX0_strongest_40 rfl rfl ?_
          refine V_iinc_3 (a3 := uu) dX0_strongest_41 rfl ?_
          refine V_goto 9 dX0_strongest_44 (by decide) ?_
          obtain ⟨g11, h⟩ := h
          exact ih _ _ _ r1 r3 g11 h
set_option maxRecDepth 100000 in
theorem w_X0_strongest {Γ : GE} {x : XM} (hx : WX x) {v1 : Int} {q : Int → Prop} (r1 : Rg v1) (h : M_X0_strongest x v1 q) : CV Γ 3 NF NF D_X0_strongest [.ref (gB Γ + 3), vI v1] (mk Γ x) (QI Γ x q) := by
  refine CV.of rfl (cat_all rfl) (Nat.le_of_ble_eq_true rfl) ?_
  show V Γ 3 NF NF D_X0_strongest (QI Γ x q) 0 [.ref (gB Γ + 3), vI v1, uu, uu] [] NF (mk Γ x)
  unfold M_X0_strongest at h
  refine V_iload_1 dX0_strongest_0 ?_
  refine V_cSI1 (My := D_J6_numberOfTrailingZeros_0f7a4) dX0_strongest_1 ml_Bench_58 ce_J6_numberOfTrailingZeros_0f7a4 (Nat.le_refl _) (Nat.le_refl _) (by decide) (sumL rfl) (w_J6_numberOfTrailingZeros_0f7a4 hx r1 h) (fun z1 hz1 h => ?_)
  refine V_istore_2 dX0_strongest_4 rfl rfl ?_
  refine V_iload_2 dX0_strongest_5 ?_
  refine V_iconst dX0_strongest_6 ?_
  refine V_iadd dX0_strongest_7 ?_
  refine V_istore_3 dX0_strongest_8 rfl rfl ?_
  obtain ⟨g12, h⟩ := h
  obtain ⟨m9, h⟩ := h
  exact w_X0_strongest_9 hx m9 _ _ _ r1 hz1 g12 h
def M_X0_mostHeld_8 (q : Int → Prop) (x : XM) : Nat → Int → Int → Int → Int → Prop
  | 0, _, _, _, _ => False
  | n + 1, v2, v3, v4, v5 =>
  ((v2 ≤ v5 → q v4) ∧ (¬ (v2 ≤ v5) → ((v3 = 0 → q v4) ∧ (¬ v3 = 0 → M_X0_strongest x v3  (fun z3 => M_X0_holds x z3  (fun z4 => (Rg (v4 + z4)) ∧ (Rg (v5 + 1)) ∧ (M_X0_mostHeld_8 q x n) v2 (jand v3 (jxor (jshl 1 z3) (-1))) (v4 + z4) (v5 + 1)))))))
def M_X0_mostHeld (x : XM) (v1 : Int) (v2 : Int) (q : Int → Prop) : Prop :=
  ∃ m : Nat, M_X0_mostHeld_8 q x m v2 v1 0 0
set_option maxRecDepth 100000 in
theorem w_X0_mostHeld_8 {Γ : GE} {q : Int → Prop} {x : XM} (hx : WX x) : ∀ (n : Nat) (v2 : Int) (v3 : Int) (v4 : Int) (v5 : Int) , Rg v2 → Rg v3 → Rg v4 → Rg v5 → M_X0_mostHeld_8 q x n v2 v3 v4 v5 → V Γ 4 NF NF D_X0_mostHeld (QI Γ x q) 8 [.ref (gB Γ + 3), uu, vI v2, vI v3, vI v4, vI v5, uu] [] NF (mk Γ x) := by
  intro n
  induction n with
  | zero =>
    intro v2 v3 v4 v5 r2 r3 r4 r5 h
    rw [M_X0_mostHeld_8.eq_1] at h
    exact h.elim
  | succ n ih =>
    intro v2 v3 v4 v5 r2 r3 r4 r5 h
    rw [M_X0_mostHeld_8.eq_2] at h
    refine V_iload_5 dX0_mostHeld_8 ?_
    refine V_iload_2 dX0_mostHeld_10 ?_
    refine V_icmp_ge 51 dX0_mostHeld_11 (by decide) r5 r2 ⟨fun c1 => ?_, fun c1 => ?_⟩
    · have h := h.1 c1
      refine V_iload_4 dX0_mostHeld_51 ?_
      exact V_ireturn dX0_mostHeld_53 rfl ⟨rfl, _, rfl, r4, h⟩
    · have h := h.2 c1
      refine V_iload_3 dX0_mostHeld_14 ?_
      refine V_if_eq 51 dX0_mostHeld_15 (by decide) r3 ⟨fun c2 => ?_, fun c2 => ?_⟩
      · have h := h.1 c2
        refine V_iload_4 dX0_mostHeld_51 ?_
        exact V_ireturn dX0_mostHeld_53 rfl ⟨rfl, _, rfl, r4, h⟩
      · have h := h.2 c2
        refine V_aload_0 dX0_mostHeld_18 ?_
        refine V_iload_3 dX0_mostHeld_19 ?_
        refine V_cVI1 (My := D_X0_strongest) dX0_mostHeld_20 ml_Bench_89 ce_X0_strongest ly_3 (by decide) cl_0 (by decide) (Nat.le_refl _) (Nat.le_refl _) (by decide) (sumL rfl) (w_X0_strongest hx r3 h) (fun z3 hz3 h => ?_)
        refine V_istore_6 dX0_mostHeld_23 rfl rfl ?_
        refine V_iload_3 dX0_mostHeld_25 ?_
        refine V_iconst dX0_mostHeld_26 ?_
        refine V_iload_6 dX0_mostHeld_27 ?_
        refine V_ishl dX0_mostHeld_29 ?_
        refine V_iconst dX0_mostHeld_30 ?_
        refine V_ixor dX0_mostHeld_31 ?_
        refine V_iand dX0_mostHeld_32 ?_
        refine V_istore_3 dX0_mostHeld_33 rfl rfl ?_
        refine V_iload_4 dX0_mostHeld_34 ?_
        refine V_aload_0 dX0_mostHeld_36 ?_
        refine V_iload_6 dX0_mostHeld_37 ?_
        refine V_cVI1 (My := D_X0_holds) dX0_mostHeld_39 ml_Bench_92 ce_X0_holds ly_3 (by decide) cl_0 (by decide) (Nat.le_refl _) (Nat.le_refl _) (by decide) (sumL rfl) (w_X0_holds hx hz3 h) (fun z4 hz4 h => ?_)
        refine V_iadd dX0_mostHeld_42 ?_
        refine V_istore_4 dX0_mostHeld_43 rfl rfl ?_
        refine V_iinc_5 (a5 := uu) dX0_mostHeld_45 rfl ?_
        refine V_goto 8 dX0_mostHeld_48 (by decide) ?_
        obtain ⟨g5, h⟩ := h
        obtain ⟨g6, h⟩ := h
        refine V_fg_6 ?_
        exact ih _ _ _ _ r2 (Rg.of _) g5 g6 h
set_option maxRecDepth 100000 in
theorem w_X0_mostHeld {Γ : GE} {x : XM} (hx : WX x) {v1 v2 : Int} {q : Int → Prop} (r1 : Rg v1) (r2 : Rg v2) (h : M_X0_mostHeld x v1 v2 q) : CV Γ 4 NF NF D_X0_mostHeld [.ref (gB Γ + 3), vI v1, vI v2] (mk Γ x) (QI Γ x q) := by
  refine CV.of rfl (cat_all rfl) (Nat.le_of_ble_eq_true rfl) ?_
  show V Γ 4 NF NF D_X0_mostHeld (QI Γ x q) 0 [.ref (gB Γ + 3), vI v1, vI v2, uu, uu, uu, uu] [] NF (mk Γ x)
  unfold M_X0_mostHeld at h
  refine V_iload_1 dX0_mostHeld_0 ?_
  refine V_istore_3 dX0_mostHeld_1 rfl rfl ?_
  refine V_iconst dX0_mostHeld_2 ?_
  refine V_istore_4 dX0_mostHeld_3 rfl rfl ?_
  refine V_iconst dX0_mostHeld_5 ?_
  refine V_istore_5 dX0_mostHeld_6 rfl rfl ?_
  refine V_fg_1 ?_
  obtain ⟨m9, h⟩ := h
  exact w_X0_mostHeld_8 hx m9 _ _ _ _ r2 r1 (rgL rfl) (rgL rfl) h
def M_X0_heaviest_6 (q : Int → Prop) (x : XM) : Nat → Int → Int → Int → Prop
  | 0, _, _, _ => False
  | n + 1, v1, v2, v3 =>
  ((6 ≤ v3 → q v1) ∧ (¬ (6 ≤ v3) → M_X0_at x v3  (fun z2 => M_X0_mostHeld x z2 12  (fun z3 => ((z2 = 0 → (Rg (v3 + 1)) ∧ (M_X0_heaviest_6 q x n) v1 v2 (v3 + 1)) ∧ (¬ z2 = 0 → ((z3 ≤ v2 → (Rg (v3 + 1)) ∧ (M_X0_heaviest_6 q x n) v1 v2 (v3 + 1)) ∧ (¬ (z3 ≤ v2) → (Rg (v3 + 1)) ∧ (M_X0_heaviest_6 q x n) v3 z3 (v3 + 1)))))))))
def M_X0_heaviest (x : XM) (q : Int → Prop) : Prop :=
  ∃ m : Nat, M_X0_heaviest_6 q x m (-1) (-1) 0
set_option maxRecDepth 100000 in
theorem w_X0_heaviest_6 {Γ : GE} {q : Int → Prop} {x : XM} (hx : WX x) : ∀ (n : Nat) (v1 : Int) (v2 : Int) (v3 : Int) , Rg v1 → Rg v2 → Rg v3 → M_X0_heaviest_6 q x n v1 v2 v3 → V Γ 5 NF NF D_X0_heaviest (QI Γ x q) 6 [.ref (gB Γ + 3), vI v1, vI v2, vI v3, uu, uu] [] NF (mk Γ x) := by
  intro n
  induction n with
  | zero =>
    intro v1 v2 v3 r1 r2 r3 h
    rw [M_X0_heaviest_6.eq_1] at h
    exact h.elim
  | succ n ih =>
    intro v1 v2 v3 r1 r2 r3 h
    rw [M_X0_heaviest_6.eq_2] at h
    refine V_iload_3 dX0_heaviest_6 ?_
    refine V_bipush dX0_heaviest_7 (by decide) ?_
    refine V_icmp_ge 51 dX0_heaviest_9 (by decide) r3 (rgL rfl) ⟨fun c1 => ?_, fun c1 => ?_⟩
    · have h := h.1 c1
      refine V_iload_1 dX0_heaviest_51 ?_
      exact V_ireturn dX0_heaviest_52 rfl ⟨rfl, _, rfl, r1, h⟩
    · have h := h.2 c1
      refine V_aload_0 dX0_heaviest_12 ?_
      refine V_iload_3 dX0_heaviest_13 ?_
      refine V_cVI1 (My := D_X0_at) dX0_heaviest_14 ml_Bench_55 ce_X0_at ly_3 (by decide) cl_0 (by decide) (Nat.le_refl _) (Nat.le_refl _) (by decide) (sumL rfl) (w_X0_at hx r3 h) (fun z2 hz2 h => ?_)
      refine V_istore_4 dX0_heaviest_17 rfl rfl ?_
      refine V_aload_0 dX0_heaviest_19 ?_
      refine V_iload_4 dX0_heaviest_20 ?_
      refine V_bipush dX0_heaviest_22 (by decide) ?_
      refine V_cVI2 (My := D_X0_mostHeld) dX0_heaviest_24 ml_Bench_86 ce_X0_mostHeld ly_3 (by decide) cl_0 (by decide) (Nat.le_refl _) (Nat.le_refl _) (by decide) (sumL rfl) (w_X0_mostHeld hx hz2 (rgL rfl) h) (fun z3 hz3 h => ?_)
      refine V_istore_5 dX0_heaviest_27 rfl rfl ?_
      refine V_iload_4 dX0_heaviest_29 ?_
      refine V_if_eq 45 dX0_heaviest_31 (by decide) hz2 ⟨fun c4 => ?_, fun c4 => ?_⟩
      · have h := h.1 c4
        refine V_iinc_3 (a3 := uu) dX0_heaviest_45 rfl ?_
        refine V_goto 6 dX0_heaviest_48 (by decide) ?_
        obtain ⟨g5, h⟩ := h
        refine V_fg_4 ?_
        refine V_fg_5 ?_
        exact ih _ _ _ r1 r2 g5 h
      · have h := h.2 c4
        refine V_iload_5 dX0_heaviest_34 ?_
        refine V_iload_2 dX0_heaviest_36 ?_
        refine V_icmp_le 45 dX0_heaviest_37 (by decide) hz3 r2 ⟨fun c6 => ?_, fun c6 => ?_⟩
        · have h := h.1 c6
          refine V_iinc_3 (a3 := uu) dX0_heaviest_45 rfl ?_
          refine V_goto 6 dX0_heaviest_48 (by decide) ?_
          obtain ⟨g7, h⟩ := h
          refine V_fg_4 ?_
          refine V_fg_5 ?_
          exact ih _ _ _ r1 r2 g7 h
        · have h := h.2 c6
          refine V_iload_5 dX0_heaviest_40 ?_
          refine V_istore_2 dX0_heaviest_42 rfl rfl ?_
          refine V_iload_3 dX0_heaviest_43 ?_
          refine V_istore_1 dX0_heaviest_44 rfl rfl ?_
          refine V_iinc_3 (a3 := uu) dX0_heaviest_45 rfl ?_
          refine V_goto 6 dX0_heaviest_48 (by decide) ?_
          obtain ⟨g8, h⟩ := h
          refine V_fg_4 ?_
          refine V_fg_5 ?_
          exact ih _ _ _ r3 hz3 g8 h
set_option maxRecDepth 100000 in
theorem w_X0_heaviest {Γ : GE} {x : XM} (hx : WX x) {q : Int → Prop} (h : M_X0_heaviest x q) : CV Γ 5 NF NF D_X0_heaviest [.ref (gB Γ + 3)] (mk Γ x) (QI Γ x q) := by
  refine CV.of rfl (cat_all rfl) (Nat.le_of_ble_eq_true rfl) ?_
  show V Γ 5 NF NF D_X0_heaviest (QI Γ x q) 0 [.ref (gB Γ + 3), uu, uu, uu, uu, uu] [] NF (mk Γ x)
  unfold M_X0_heaviest at h
  refine V_iconst dX0_heaviest_0 ?_
  refine V_istore_1 dX0_heaviest_1 rfl rfl ?_
  refine V_iconst dX0_heaviest_2 ?_
  refine V_istore_2 dX0_heaviest_3 rfl rfl ?_
  refine V_iconst dX0_heaviest_4 ?_
  refine V_istore_3 dX0_heaviest_5 rfl rfl ?_
  obtain ⟨m9, h⟩ := h
  exact w_X0_heaviest_6 hx m9 _ _ _ (rgL rfl) (rgL rfl) (rgL rfl) h
def M_X10_told (x : XM) (v1 : Int) (q : Int → Prop) : Prop :=
  ((v1 = 0 → M_X0_errs x  (fun z1 => q z1)) ∧ (¬ v1 = 0 → ((v1 = 1 → M_X0_count x 1  (fun z2 => q z2)) ∧ (¬ v1 = 1 → ((v1 = 2 → M_X0_count x 2  (fun z3 => q z3)) ∧ (¬ v1 = 2 → ((v1 = 3 → M_X0_count x 3  (fun z4 => q z4)) ∧ (¬ v1 = 3 → ((v1 = 4 → M_X0_count x 4  (fun z5 => q z5)) ∧ (¬ v1 = 4 → ((v1 = 5 → q (x 1 1)) ∧ (¬ v1 = 5 → ((v1 = 6 → M_X0_at x 6  (fun z6 => q z6)) ∧ (¬ v1 = 6 → ((v1 = 7 → M_X0_at x 7  (fun z7 => q z7)) ∧ (¬ v1 = 7 → ((v1 = 8 → M_X0_from x 8 13  (fun z8 => q z8)) ∧ (¬ v1 = 8 → ((v1 = 9 → q (x 4 3)) ∧ (¬ v1 = 9 → ((v1 = 10 → M_X0_out x  (fun z9 => q z9)) ∧ (¬ v1 = 10 → ((v1 = 11 → M_X0_inWrongHeap x  (fun z10 => q z10)) ∧ (¬ v1 = 11 → ((v1 = 12 → M_X0_idle x  (fun z11 => q z11)) ∧ (¬ v1 = 12 → ((v1 = 13 → M_X0_heaviest x  (fun z12 => q z12)) ∧ (¬ v1 = 13 → ((v1 = 14 → q (x 60 2)) ∧ (¬ v1 = 14 → ((v1 = 15 → q (x 10 2)) ∧ (¬ v1 = 15 → q (-1000000002)))))))))))))))))))))))))))))))))
set_option maxRecDepth 100000 in
theorem w_X10_told {Γ : GE} {x : XM} (hx : WX x) {v1 : Int} {q : Int → Prop} (r1 : Rg v1) (h : M_X10_told x v1 q) : CV Γ 6 NF NF D_X10_told [.ref (gB Γ + 0), vI v1] (mk Γ x) (QI Γ x q) := by
  refine CV.of rfl (cat_all rfl) (Nat.le_of_ble_eq_true rfl) ?_
  show V Γ 6 NF NF D_X10_told (QI Γ x q) 0 [.ref (gB Γ + 0), vI v1] [] NF (mk Γ x)
  unfold M_X10_told at h
  refine V_iload_1 dX10_told_0 ?_
  by_cases eo : v1 < 0 ∨ 15 < v1
  · skip
    have h := h.2 (neo (v := 0) eo (by decide) (by decide))
    have h := h.2 (neo (v := 1) eo (by decide) (by decide))
    have h := h.2 (neo (v := 2) eo (by decide) (by decide))
    have h := h.2 (neo (v := 3) eo (by decide) (by decide))
    have h := h.2 (neo (v := 4) eo (by decide) (by decide))
    have h := h.2 (neo (v := 5) eo (by decide) (by decide))
    have h := h.2 (neo (v := 6) eo (by decide) (by decide))
    have h := h.2 (neo (v := 7) eo (by decide) (by decide))
    have h := h.2 (neo (v := 8) eo (by decide) (by decide))
    have h := h.2 (neo (v := 9) eo (by decide) (by decide))
    have h := h.2 (neo (v := 10) eo (by decide) (by decide))
    have h := h.2 (neo (v := 11) eo (by decide) (by decide))
    have h := h.2 (neo (v := 12) eo (by decide) (by decide))
    have h := h.2 (neo (v := 13) eo (by decide) (by decide))
    have h := h.2 (neo (v := 14) eo (by decide) (by decide))
    have h := h.2 (neo (v := 15) eo (by decide) (by decide))
    refine V_tableOut 223 dX10_told_1 r1 eo (by decide) ?_
    refine V_ldc dX10_told_223 kc_T_78 ?_
    exact V_ireturn dX10_told_225 rfl ⟨rfl, _, rfl, (rgL rfl), h⟩
  · skip
    have b_0 : 0 ≤ v1 := Int.not_lt.mp (fun z => eo (Or.inl z))
    by_cases e_0 : v1 = 0
    · have h := h.1 e_0
      refine V_tableIn (off := 79) 80 dX10_told_1 r1 (fun z => eo (Or.inl z)) (fun z => eo (Or.inr z)) (by rw [e_0]; rfl) (by decide) ?_
      refine V_aload_0 dX10_told_80 ?_
      refine V_gR dX10_told_81 fl_T_19 ly_0 (by decide) wr_0_1 ?_
      refine V_cVI0 (My := D_X0_errs) dX10_told_84 ml_T_120 ce_X0_errs ly_3 (by decide) cl_0 (by decide) (Nat.le_refl _) (Nat.le_refl _) (by decide) (sumL rfl) (w_X0_errs hx h) (fun z1 hz1 h => ?_)
      exact V_ireturn dX10_told_87 rfl ⟨rfl, _, rfl, hz1, h⟩
    have h := h.2 e_0
    have b_1 : 1 ≤ v1 := lbs b_0 e_0
    by_cases e_1 : v1 = 1
    · have h := h.1 e_1
      refine V_tableIn (off := 87) 88 dX10_told_1 r1 (fun z => eo (Or.inl z)) (fun z => eo (Or.inr z)) (by rw [e_1]; rfl) (by decide) ?_
      refine V_aload_0 dX10_told_88 ?_
      refine V_gR dX10_told_89 fl_T_19 ly_0 (by decide) wr_0_1 ?_
      refine V_iconst dX10_told_92 ?_
      refine V_cVI1 (My := D_X0_count) dX10_told_93 ml_T_116 ce_X0_count ly_3 (by decide) cl_0 (by decide) (Nat.le_refl _) (Nat.le_refl _) (by decide) (sumL rfl) (w_X0_count hx (rgL rfl) h) (fun z2 hz2 h => ?_)
      exact V_ireturn dX10_told_96 rfl ⟨rfl, _, rfl, hz2, h⟩
    have h := h.2 e_1
    have b_2 : 2 ≤ v1 := lbs b_1 e_1
    by_cases e_2 : v1 = 2
    · have h := h.1 e_2
      refine V_tableIn (off := 96) 97 dX10_told_1 r1 (fun z => eo (Or.inl z)) (fun z => eo (Or.inr z)) (by rw [e_2]; rfl) (by decide) ?_
      refine V_aload_0 dX10_told_97 ?_
      refine V_gR dX10_told_98 fl_T_19 ly_0 (by decide) wr_0_1 ?_
      refine V_iconst dX10_told_101 ?_
      refine V_cVI1 (My := D_X0_count) dX10_told_102 ml_T_116 ce_X0_count ly_3 (by decide) cl_0 (by decide) (Nat.le_refl _) (Nat.le_refl _) (by decide) (sumL rfl) (w_X0_count hx (rgL rfl) h) (fun z3 hz3 h => ?_)
      exact V_ireturn dX10_told_105 rfl ⟨rfl, _, rfl, hz3, h⟩
    have h := h.2 e_2
    have b_3 : 3 ≤ v1 := lbs b_2 e_2
    by_cases e_3 : v1 = 3
    · have h := h.1 e_3
      refine V_tableIn (off := 105) 106 dX10_told_1 r1 (fun z => eo (Or.inl z)) (fun z => eo (Or.inr z)) (by rw [e_3]; rfl) (by decide) ?_
      refine V_aload_0 dX10_told_106 ?_
      refine V_gR dX10_told_107 fl_T_19 ly_0 (by decide) wr_0_1 ?_
      refine V_iconst dX10_told_110 ?_
      refine V_cVI1 (My := D_X0_count) dX10_told_111 ml_T_116 ce_X0_count ly_3 (by decide) cl_0 (by decide) (Nat.le_refl _) (Nat.le_refl _) (by decide) (sumL rfl) (w_X0_count hx (rgL rfl) h) (fun z4 hz4 h => ?_)
      exact V_ireturn dX10_told_114 rfl ⟨rfl, _, rfl, hz4, h⟩
    have h := h.2 e_3
    have b_4 : 4 ≤ v1 := lbs b_3 e_3
    by_cases e_4 : v1 = 4
    · have h := h.1 e_4
      refine V_tableIn (off := 114) 115 dX10_told_1 r1 (fun z => eo (Or.inl z)) (fun z => eo (Or.inr z)) (by rw [e_4]; rfl) (by decide) ?_
      refine V_aload_0 dX10_told_115 ?_
      refine V_gR dX10_told_116 fl_T_19 ly_0 (by decide) wr_0_1 ?_
      refine V_iconst dX10_told_119 ?_
      refine V_cVI1 (My := D_X0_count) dX10_told_120 ml_T_116 ce_X0_count ly_3 (by decide) cl_0 (by decide) (Nat.le_refl _) (Nat.le_refl _) (by decide) (sumL rfl) (w_X0_count hx (rgL rfl) h) (fun z5 hz5 h => ?_)
      exact V_ireturn dX10_told_123 rfl ⟨rfl, _, rfl, hz5, h⟩
    have h := h.2 e_4
    have b_5 : 5 ≤ v1 := lbs b_4 e_4
    by_cases e_5 : v1 = 5
    · have h := h.1 e_5
      refine V_tableIn (off := 123) 124 dX10_told_1 r1 (fun z => eo (Or.inl z)) (fun z => eo (Or.inr z)) (by rw [e_5]; rfl) (by decide) ?_
      refine V_aload_0 dX10_told_124 ?_
      refine V_gR dX10_told_125 fl_T_10 ly_0 (by decide) wr_0_0 ?_
      refine V_gI dX10_told_128 fl_T_79 ly_1 (by decide) wn_1_1 ?_
      exact V_ireturn dX10_told_131 rfl ⟨rfl, _, rfl, (hx _ _), h⟩
    have h := h.2 e_5
    have b_6 : 6 ≤ v1 := lbs b_5 e_5
    by_cases e_6 : v1 = 6
    · have h := h.1 e_6
      refine V_tableIn (off := 131) 132 dX10_told_1 r1 (fun z => eo (Or.inl z)) (fun z => eo (Or.inr z)) (by rw [e_6]; rfl) (by decide) ?_
      refine V_aload_0 dX10_told_132 ?_
      refine V_gR dX10_told_133 fl_T_19 ly_0 (by decide) wr_0_1 ?_
      refine V_bipush dX10_told_136 (by decide) ?_
      refine V_cVI1 (My := D_X0_at) dX10_told_138 ml_T_124 ce_X0_at ly_3 (by decide) cl_0 (by decide) (Nat.le_refl _) (Nat.le_refl _) (by decide) (sumL rfl) (w_X0_at hx (rgL rfl) h) (fun z6 hz6 h => ?_)
      exact V_ireturn dX10_told_141 rfl ⟨rfl, _, rfl, hz6, h⟩
    have h := h.2 e_6
    have b_7 : 7 ≤ v1 := lbs b_6 e_6
    by_cases e_7 : v1 = 7
    · have h := h.1 e_7
      refine V_tableIn (off := 141) 142 dX10_told_1 r1 (fun z => eo (Or.inl z)) (fun z => eo (Or.inr z)) (by rw [e_7]; rfl) (by decide) ?_
      refine V_aload_0 dX10_told_142 ?_
      refine V_gR dX10_told_143 fl_T_19 ly_0 (by decide) wr_0_1 ?_
      refine V_bipush dX10_told_146 (by decide) ?_
      refine V_cVI1 (My := D_X0_at) dX10_told_148 ml_T_124 ce_X0_at ly_3 (by decide) cl_0 (by decide) (Nat.le_refl _) (Nat.le_refl _) (by decide) (sumL rfl) (w_X0_at hx (rgL rfl) h) (fun z7 hz7 h => ?_)
      exact V_ireturn dX10_told_151 rfl ⟨rfl, _, rfl, hz7, h⟩
    have h := h.2 e_7
    have b_8 : 8 ≤ v1 := lbs b_7 e_7
    by_cases e_8 : v1 = 8
    · have h := h.1 e_8
      refine V_tableIn (off := 151) 152 dX10_told_1 r1 (fun z => eo (Or.inl z)) (fun z => eo (Or.inr z)) (by rw [e_8]; rfl) (by decide) ?_
      refine V_aload_0 dX10_told_152 ?_
      refine V_gR dX10_told_153 fl_T_19 ly_0 (by decide) wr_0_1 ?_
      refine V_bipush dX10_told_156 (by decide) ?_
      refine V_bipush dX10_told_158 (by decide) ?_
      refine V_cVI2 (My := D_X0_from) dX10_told_160 ml_T_126 ce_X0_from ly_3 (by decide) cl_0 (by decide) (Nat.le_refl _) (Nat.le_refl _) (by decide) (sumL rfl) (w_X0_from hx (rgL rfl) (rgL rfl) h) (fun z8 hz8 h => ?_)
      exact V_ireturn dX10_told_163 rfl ⟨rfl, _, rfl, hz8, h⟩
    have h := h.2 e_8
    have b_9 : 9 ≤ v1 := lbs b_8 e_8
    by_cases e_9 : v1 = 9
    · have h := h.1 e_9
      refine V_tableIn (off := 163) 164 dX10_told_1 r1 (fun z => eo (Or.inl z)) (fun z => eo (Or.inr z)) (by rw [e_9]; rfl) (by decide) ?_
      refine V_aload_0 dX10_told_164 ?_
      refine V_gR dX10_told_165 fl_T_19 ly_0 (by decide) wr_0_1 ?_
      refine V_gR dX10_told_168 fl_T_100 ly_3 (by decide) wr_3_0 ?_
      refine V_gI dX10_told_171 fl_T_130 ly_4 (by decide) (clo_w3 (k := 4) rfl) ?_
      exact V_ireturn dX10_told_174 rfl ⟨rfl, _, rfl, (hx _ _), h⟩
    have h := h.2 e_9
    have b_10 : 10 ≤ v1 := lbs b_9 e_9
    by_cases e_10 : v1 = 10
    · have h := h.1 e_10
      refine V_tableIn (off := 174) 175 dX10_told_1 r1 (fun z => eo (Or.inl z)) (fun z => eo (Or.inr z)) (by rw [e_10]; rfl) (by decide) ?_
      refine V_aload_0 dX10_told_175 ?_
      refine V_gR dX10_told_176 fl_T_19 ly_0 (by decide) wr_0_1 ?_
      refine V_cVI0 (My := D_X0_out) dX10_told_179 ml_T_133 ce_X0_out ly_3 (by decide) cl_0 (by decide) (Nat.le_refl _) (Nat.le_refl _) (by decide) (sumL rfl) (w_X0_out hx h) (fun z9 hz9 h => ?_)
      exact V_ireturn dX10_told_182 rfl ⟨rfl, _, rfl, hz9, h⟩
    have h := h.2 e_10
    have b_11 : 11 ≤ v1 := lbs b_10 e_10
    by_cases e_11 : v1 = 11
    · have h := h.1 e_11
      refine V_tableIn (off := 182) 183 dX10_told_1 r1 (fun z => eo (Or.inl z)) (fun z => eo (Or.inr z)) (by rw [e_11]; rfl) (by decide) ?_
      refine V_aload_0 dX10_told_183 ?_
      refine V_gR dX10_told_184 fl_T_19 ly_0 (by decide) wr_0_1 ?_
      refine V_cVI0 (My := D_X0_inWrongHeap) dX10_told_187 ml_T_136 ce_X0_inWrongHeap ly_3 (by decide) cl_0 (by decide) (Nat.le_refl _) (Nat.le_refl _) (by decide) (sumL rfl) (w_X0_inWrongHeap hx h) (fun z10 hz10 h => ?_)
      exact V_ireturn dX10_told_190 rfl ⟨rfl, _, rfl, hz10, h⟩
    have h := h.2 e_11
    have b_12 : 12 ≤ v1 := lbs b_11 e_11
    by_cases e_12 : v1 = 12
    · have h := h.1 e_12
      refine V_tableIn (off := 190) 191 dX10_told_1 r1 (fun z => eo (Or.inl z)) (fun z => eo (Or.inr z)) (by rw [e_12]; rfl) (by decide) ?_
      refine V_aload_0 dX10_told_191 ?_
      refine V_gR dX10_told_192 fl_T_19 ly_0 (by decide) wr_0_1 ?_
      refine V_cVI0 (My := D_X0_idle) dX10_told_195 ml_T_139 ce_X0_idle ly_3 (by decide) cl_0 (by decide) (Nat.le_refl _) (Nat.le_refl _) (by decide) (sumL rfl) (w_X0_idle hx h) (fun z11 hz11 h => ?_)
      exact V_ireturn dX10_told_198 rfl ⟨rfl, _, rfl, hz11, h⟩
    have h := h.2 e_12
    have b_13 : 13 ≤ v1 := lbs b_12 e_12
    by_cases e_13 : v1 = 13
    · have h := h.1 e_13
      refine V_tableIn (off := 198) 199 dX10_told_1 r1 (fun z => eo (Or.inl z)) (fun z => eo (Or.inr z)) (by rw [e_13]; rfl) (by decide) ?_
      refine V_aload_0 dX10_told_199 ?_
      refine V_gR dX10_told_200 fl_T_19 ly_0 (by decide) wr_0_1 ?_
      refine V_cVI0 (My := D_X0_heaviest) dX10_told_203 ml_T_142 ce_X0_heaviest ly_3 (by decide) cl_0 (by decide) (Nat.le_refl _) (Nat.le_refl _) (by decide) (sumL rfl) (w_X0_heaviest hx h) (fun z12 hz12 h => ?_)
      exact V_ireturn dX10_told_206 rfl ⟨rfl, _, rfl, hz12, h⟩
    have h := h.2 e_13
    have b_14 : 14 ≤ v1 := lbs b_13 e_13
    by_cases e_14 : v1 = 14
    · have h := h.1 e_14
      refine V_tableIn (off := 206) 207 dX10_told_1 r1 (fun z => eo (Or.inl z)) (fun z => eo (Or.inr z)) (by rw [e_14]; rfl) (by decide) ?_
      refine V_aload_0 dX10_told_207 ?_
      refine V_gR dX10_told_208 fl_T_33 ly_0 (by decide) wr_0_3 ?_
      refine V_gI dX10_told_211 fl_T_145 ly_60 (by decide) wn_60_2 ?_
      exact V_ireturn dX10_told_214 rfl ⟨rfl, _, rfl, (hx _ _), h⟩
    have h := h.2 e_14
    have b_15 : 15 ≤ v1 := lbs b_14 e_14
    by_cases e_15 : v1 = 15
    · have h := h.1 e_15
      refine V_tableIn (off := 214) 215 dX10_told_1 r1 (fun z => eo (Or.inl z)) (fun z => eo (Or.inr z)) (by rw [e_15]; rfl) (by decide) ?_
      refine V_aload_0 dX10_told_215 ?_
      refine V_gR dX10_told_216 fl_T_26 ly_0 (by decide) wr_0_2 ?_
      refine V_gI dX10_told_219 fl_T_148 ly_10 (by decide) wn_10_2 ?_
      exact V_ireturn dX10_told_222 rfl ⟨rfl, _, rfl, (hx _ _), h⟩
    have h := h.2 e_15
    have b_16 : 16 ≤ v1 := lbs b_15 e_15
    exact absurd b_16 (fun z => eo (Or.inr (Int.lt_of_lt_of_le (by decide) z)))
def M_X11_setIn_4 (q : Int → Prop) (x : XM) : Nat → Int → Int → Int → Prop
  | 0, _, _, _ => False
  | n + 1, v1, v2, v3 =>
  (((x 83 3) ≤ v3 → q v2) ∧ (¬ ((x 83 3) ≤ v3) → (0 ≤ v3 ∧ v3 < 31) ∧ ((¬ (x 93 (v3.toNat)) = v1 → (Rg (v3 + 1)) ∧ (M_X11_setIn_4 q x n) v1 (jor v2 0) (v3 + 1)) ∧ ((x 93 (v3.toNat)) = v1 → (Rg (v3 + 1)) ∧ (M_X11_setIn_4 q x n) v1 (jor v2 (jshl 1 v3)) (v3 + 1)))))
def M_X11_setIn (x : XM) (v1 : Int) (q : Int → Prop) : Prop :=
  ∃ m : Nat, M_X11_setIn_4 q x m v1 0 0
set_option maxRecDepth 100000 in
theorem w_X11_setIn_4 {Γ : GE} {q : Int → Prop} {x : XM} (hx : WX x) : ∀ (n : Nat) (v1 : Int) (v2 : Int) (v3 : Int) , Rg v1 → Rg v2 → Rg v3 → M_X11_setIn_4 q x n v1 v2 v3 → V Γ 0 NF NF D_X11_setIn (QI Γ x q) 4 [.ref (gB Γ + 83), vI v1, vI v2, vI v3] [] NF (mk Γ x) := by
  intro n
  induction n with
  | zero =>
    intro v1 v2 v3 r1 r2 r3 h
    rw [M_X11_setIn_4.eq_1] at h
    exact h.elim
  | succ n ih =>
    intro v1 v2 v3 r1 r2 r3 h
    rw [M_X11_setIn_4.eq_2] at h
    refine V_iload_3 dX11_setIn_4 ?_
    refine V_aload_0 dX11_setIn_5 ?_
    refine V_gI dX11_setIn_6 fl_R_145 ly_83 (by decide) wn_83_3 ?_
    refine V_icmp_ge 38 dX11_setIn_9 (by decide) r3 (hx _ _) ⟨fun c1 => ?_, fun c1 => ?_⟩
    · have h := h.1 c1
      refine V_iload_2 dX11_setIn_38 ?_
      exact V_ireturn dX11_setIn_39 rfl ⟨rfl, _, rfl, r2, h⟩
    · have h := h.2 c1
      refine V_iload_2 dX11_setIn_12 ?_
      refine V_aload_0 dX11_setIn_13 ?_
      refine V_gR dX11_setIn_14 fl_R_38 ly_83 (by decide) wr_83_25 ?_
      refine V_iload_3 dX11_setIn_17 ?_
      obtain ⟨g2, h⟩ := h
      refine V_aI dX11_setIn_18 ly_93 (by decide) (by decide) g2 ?_
      refine V_iload_1 dX11_setIn_19 ?_
      refine V_icmp_ne 29 dX11_setIn_20 (by decide) (hx _ _) r1 ⟨fun c3 => ?_, fun c3 => ?_⟩
      · have h := h.1 c3
        refine V_iconst dX11_setIn_29 ?_
        refine V_ior dX11_setIn_30 ?_
        refine V_istore_2 dX11_setIn_31 rfl rfl ?_
        refine V_iinc_3 (a3 := uu) dX11_setIn_32 rfl ?_
        refine V_goto 4 dX11_setIn_35 (by decide) ?_
        obtain ⟨g4, h⟩ := h
        exact ih _ _ _ r1 (Rg.of _) g4 h
      · have h := h.2 c3
        refine V_iconst dX11_setIn_23 ?_
        refine V_iload_3 dX11_setIn_24 ?_
        refine V_ishl dX11_setIn_25 ?_
        refine V_goto 30 dX11_setIn_26 (by decide) ?_
        refine V_ior dX11_setIn_30 ?_
        refine V_istore_2 dX11_setIn_31 rfl rfl ?_
        refine V_iinc_3 (a3 := uu) dX11_setIn_32 rfl ?_
        refine V_goto 4 dX11_setIn_35 (by decide) ?_
        obtain ⟨g5, h⟩ := h
        exact ih _ _ _ r1 (Rg.of _) g5 h
set_option maxRecDepth 100000 in
theorem w_X11_setIn {Γ : GE} {x : XM} (hx : WX x) {v1 : Int} {q : Int → Prop} (r1 : Rg v1) (h : M_X11_setIn x v1 q) : CV Γ 0 NF NF D_X11_setIn [.ref (gB Γ + 83), vI v1] (mk Γ x) (QI Γ x q) := by
  refine CV.of rfl (cat_all rfl) (Nat.le_of_ble_eq_true rfl) ?_
  show V Γ 0 NF NF D_X11_setIn (QI Γ x q) 0 [.ref (gB Γ + 83), vI v1, uu, uu] [] NF (mk Γ x)
  unfold M_X11_setIn at h
  refine V_iconst dX11_setIn_0 ?_
  refine V_istore_2 dX11_setIn_1 rfl rfl ?_
  refine V_iconst dX11_setIn_2 ?_
  refine V_istore_3 dX11_setIn_3 rfl rfl ?_
  obtain ⟨m9, h⟩ := h
  exact w_X11_setIn_4 hx m9 _ _ _ r1 (rgL rfl) (rgL rfl) h
def M_X11_markOf (x : XM) (v1 : Int) (v2 : Int) (q : Int → Prop) : Prop :=
  ((¬ v2 = 3 → (0 ≤ ((4 * v1) + v2) ∧ ((4 * v1) + v2) < 48) ∧ q (x 85 ((((4 * v1) + v2)).toNat))) ∧ (v2 = 3 → (0 ≤ (12 + v1) ∧ (12 + v1) < 31) ∧ q (x 93 (((12 + v1)).toNat))))
set_option maxRecDepth 100000 in
theorem w_X11_markOf {Γ : GE} {x : XM} (hx : WX x) {v1 v2 : Int} {q : Int → Prop} (r1 : Rg v1) (r2 : Rg v2) (h : M_X11_markOf x v1 v2 q) : CV Γ 0 NF NF D_X11_markOf [.ref (gB Γ + 83), vI v1, vI v2] (mk Γ x) (QI Γ x q) := by
  refine CV.of rfl (cat_all rfl) (Nat.le_of_ble_eq_true rfl) ?_
  show V Γ 0 NF NF D_X11_markOf (QI Γ x q) 0 [.ref (gB Γ + 83), vI v1, vI v2] [] NF (mk Γ x)
  unfold M_X11_markOf at h
  refine V_iload_2 dX11_markOf_0 ?_
  refine V_iconst dX11_markOf_1 ?_
  refine V_icmp_ne 17 dX11_markOf_2 (by decide) r2 (rgL rfl) ⟨fun c1 => ?_, fun c1 => ?_⟩
  · have h := h.1 c1
    refine V_aload_0 dX11_markOf_17 ?_
    refine V_gR dX11_markOf_18 fl_R_13 ly_83 (by decide) wr_83_4 ?_
    refine V_iconst dX11_markOf_21 ?_
    refine V_iload_1 dX11_markOf_22 ?_
    refine V_imul dX11_markOf_23 ?_
    refine V_iload_2 dX11_markOf_24 ?_
    refine V_iadd dX11_markOf_25 ?_
    obtain ⟨g2, h⟩ := h
    refine V_aI dX11_markOf_26 ly_85 (by decide) (by decide) g2 ?_
    exact V_ireturn dX11_markOf_27 rfl ⟨rfl, _, rfl, (hx _ _), h⟩
  · have h := h.2 c1
    refine V_aload_0 dX11_markOf_5 ?_
    refine V_gR dX11_markOf_6 fl_R_38 ly_83 (by decide) wr_83_25 ?_
    refine V_bipush dX11_markOf_9 (by decide) ?_
    refine V_iload_1 dX11_markOf_11 ?_
    refine V_iadd dX11_markOf_12 ?_
    obtain ⟨g3, h⟩ := h
    refine V_aI dX11_markOf_13 ly_93 (by decide) (by decide) g3 ?_
    refine V_goto 27 dX11_markOf_14 (by decide) ?_
    exact V_ireturn dX11_markOf_27 rfl ⟨rfl, _, rfl, (hx _ _), h⟩
def M_X11_isBy (x : XM) (v0 : Int) (v1 : Int) (v2 : Int) (q : Int → Prop) : Prop :=
  ((¬ v0 = 0 → ((¬ v0 = 1 → ((v1 < v2 → q 0) ∧ (¬ (v1 < v2) → q 1))) ∧ (v0 = 1 → ((v2 < v1 → q 0) ∧ (¬ (v2 < v1) → q 1))))) ∧ (v0 = 0 → ((¬ v2 = v1 → q 0) ∧ (v2 = v1 → q 1))))
set_option maxRecDepth 100000 in
theorem w_X11_isBy {Γ : GE} {x : XM} (hx : WX x) {v0 v1 v2 : Int} {q : Int → Prop} (r0 : Rg v0) (r1 : Rg v1) (r2 : Rg v2) (h : M_X11_isBy x v0 v1 v2 q) : CV Γ 0 NF NF D_X11_isBy [vI v0, vI v1, vI v2] (mk Γ x) (QI Γ x q) := by
  refine CV.of rfl (cat_all rfl) (Nat.le_of_ble_eq_true rfl) ?_
  show V Γ 0 NF NF D_X11_isBy (QI Γ x q) 0 [vI v0, vI v1, vI v2] [] NF (mk Γ x)
  unfold M_X11_isBy at h
  refine V_iload_0 dX11_isBy_0 ?_
  refine V_if_ne 17 dX11_isBy_1 (by decide) r0 ⟨fun c1 => ?_, fun c1 => ?_⟩
  · have h := h.1 c1
    refine V_iload_0 dX11_isBy_17 ?_
    refine V_iconst dX11_isBy_18 ?_
    refine V_icmp_ne 35 dX11_isBy_19 (by decide) r0 (rgL rfl) ⟨fun c2 => ?_, fun c2 => ?_⟩
    · have h := h.1 c2
      refine V_iload_2 dX11_isBy_35 ?_
      refine V_iload_1 dX11_isBy_36 ?_
      refine V_icmp_gt 44 dX11_isBy_37 (by decide) r2 r1 ⟨fun c3 => ?_, fun c3 => ?_⟩
      · have h := h.1 c3
        refine V_iconst dX11_isBy_44 ?_
        exact V_zreturn dX11_isBy_45 rfl (Or.inl rfl) ⟨rfl, _, rfl, (rgL rfl), h⟩
      · have h := h.2 c3
        refine V_iconst dX11_isBy_40 ?_
        refine V_goto 45 dX11_isBy_41 (by decide) ?_
        exact V_zreturn dX11_isBy_45 rfl (Or.inr rfl) ⟨rfl, _, rfl, (rgL rfl), h⟩
    · have h := h.2 c2
      refine V_iload_2 dX11_isBy_22 ?_
      refine V_iload_1 dX11_isBy_23 ?_
      refine V_icmp_lt 31 dX11_isBy_24 (by decide) r2 r1 ⟨fun c4 => ?_, fun c4 => ?_⟩
      · have h := h.1 c4
        refine V_iconst dX11_isBy_31 ?_
        refine V_goto 45 dX11_isBy_32 (by decide) ?_
        exact V_zreturn dX11_isBy_45 rfl (Or.inl rfl) ⟨rfl, _, rfl, (rgL rfl), h⟩
      · have h := h.2 c4
        refine V_iconst dX11_isBy_27 ?_
        refine V_goto 45 dX11_isBy_28 (by decide) ?_
        exact V_zreturn dX11_isBy_45 rfl (Or.inr rfl) ⟨rfl, _, rfl, (rgL rfl), h⟩
  · have h := h.2 c1
    refine V_iload_2 dX11_isBy_4 ?_
    refine V_iload_1 dX11_isBy_5 ?_
    refine V_icmp_ne 13 dX11_isBy_6 (by decide) r2 r1 ⟨fun c5 => ?_, fun c5 => ?_⟩
    · have h := h.1 c5
      refine V_iconst dX11_isBy_13 ?_
      refine V_goto 45 dX11_isBy_14 (by decide) ?_
      exact V_zreturn dX11_isBy_45 rfl (Or.inl rfl) ⟨rfl, _, rfl, (rgL rfl), h⟩
    · have h := h.2 c5
      refine V_iconst dX11_isBy_9 ?_
      refine V_goto 45 dX11_isBy_10 (by decide) ?_
      exact V_zreturn dX11_isBy_45 rfl (Or.inr rfl) ⟨rfl, _, rfl, (rgL rfl), h⟩
def M_X11_passesRule (x : XM) (v1 : Int) (v2 : Int) (q : Int → Prop) : Prop :=
  (0 ≤ ((4 * v1) + 1) ∧ ((4 * v1) + 1) < 24) ∧ (0 ≤ ((4 * v1) + 2) ∧ ((4 * v1) + 2) < 24) ∧ (0 ≤ (4 * v1) ∧ (4 * v1) < 24) ∧ M_X11_markOf x v2 (x 86 (((4 * v1)).toNat))  (fun z4 => M_X11_isBy x (x 86 ((((4 * v1) + 1)).toNat)) (x 86 ((((4 * v1) + 2)).toNat)) z4  (fun z5 => (z5 = 0 ∨ z5 = 1) ∧ q z5))
set_option maxRecDepth 100000 in
theorem w_X11_passesRule {Γ : GE} {x : XM} (hx : WX x) {v1 v2 : Int} {q : Int → Prop} (r1 : Rg v1) (r2 : Rg v2) (h : M_X11_passesRule x v1 v2 q) : CV Γ 1 NF NF D_X11_passesRule [.ref (gB Γ + 83), vI v1, vI v2] (mk Γ x) (QI Γ x q) := by
  refine CV.of rfl (cat_all rfl) (Nat.le_of_ble_eq_true rfl) ?_
  show V Γ 1 NF NF D_X11_passesRule (QI Γ x q) 0 [.ref (gB Γ + 83), vI v1, vI v2] [] NF (mk Γ x)
  unfold M_X11_passesRule at h
  refine V_aload_0 dX11_passesRule_0 ?_
  refine V_gR dX11_passesRule_1 fl_R_17 ly_83 (by decide) wr_83_6 ?_
  refine V_iconst dX11_passesRule_4 ?_
  refine V_iload_1 dX11_passesRule_5 ?_
  refine V_imul dX11_passesRule_6 ?_
  refine V_iconst dX11_passesRule_7 ?_
  refine V_iadd dX11_passesRule_8 ?_
  obtain ⟨g1, h⟩ := h
  refine V_aI dX11_passesRule_9 ly_86 (by decide) (by decide) g1 ?_
  refine V_aload_0 dX11_passesRule_10 ?_
  refine V_gR dX11_passesRule_11 fl_R_17 ly_83 (by decide) wr_83_6 ?_
  refine V_iconst dX11_passesRule_14 ?_
  refine V_iload_1 dX11_passesRule_15 ?_
  refine V_imul dX11_passesRule_16 ?_
  refine V_iconst dX11_passesRule_17 ?_
  refine V_iadd dX11_passesRule_18 ?_
  obtain ⟨g2, h⟩ := h
  refine V_aI dX11_passesRule_19 ly_86 (by decide) (by decide) g2 ?_
  refine V_aload_0 dX11_passesRule_20 ?_
  refine V_iload_2 dX11_passesRule_21 ?_
  refine V_aload_0 dX11_passesRule_22 ?_
  refine V_gR dX11_passesRule_23 fl_R_17 ly_83 (by decide) wr_83_6 ?_
  refine V_iconst dX11_passesRule_26 ?_
  refine V_iload_1 dX11_passesRule_27 ?_
  refine V_imul dX11_passesRule_28 ?_
  obtain ⟨g3, h⟩ := h
  refine V_aI dX11_passesRule_29 ly_86 (by decide) (by decide) g3 ?_
  refine V_cVI2 (My := D_X11_markOf) dX11_passesRule_30 ml_R_163 ce_X11_markOf ly_83 (by decide) cl_11 (by decide) (Nat.le_refl _) (Nat.le_refl _) (by decide) (sumL rfl) (w_X11_markOf hx r2 (hx _ _) h) (fun z4 hz4 h => ?_)
  refine V_cSI3 (My := D_X11_isBy) dX11_passesRule_33 ml_R_166 ce_X11_isBy (Nat.le_refl _) (Nat.le_refl _) (by decide) (sumL rfl) (w_X11_isBy hx (hx _ _) (hx _ _) hz4 h) (fun z5 hz5 h => ?_)
  obtain ⟨g6, h⟩ := h
  exact V_zreturn dX11_passesRule_36 rfl g6 ⟨rfl, _, rfl, hz5, h⟩
def M_X11_ruleOf_9 (q : Int → Prop) (x : XM) : Nat → Int → Int → Int → Prop
  | 0, _, _, _ => False
  | n + 1, v1, v2, v3 =>
  ((v3 < 0 → q v2) ∧ (¬ (v3 < 0) → (0 ≤ (24 + v3) ∧ (24 + v3) < 31) ∧ M_X11_passesRule x (x 93 (((24 + v3)).toNat)) v1  (fun z3 => ((z3 = 0 → (Rg (v3 + (-1))) ∧ (M_X11_ruleOf_9 q x n) v1 v2 (v3 + (-1))) ∧ (¬ z3 = 0 → (0 ≤ (24 + v3) ∧ (24 + v3) < 31) ∧ (Rg (v3 + (-1))) ∧ (M_X11_ruleOf_9 q x n) v1 (x 93 (((24 + v3)).toNat)) (v3 + (-1)))))))
def M_X11_ruleOf (x : XM) (v1 : Int) (q : Int → Prop) : Prop :=
  (Rg ((x 83 5) - 1)) ∧ ∃ m : Nat, M_X11_ruleOf_9 q x m v1 (-1) ((x 83 5) - 1)
set_option maxRecDepth 100000 in
theorem w_X11_ruleOf_9 {Γ : GE} {q : Int → Prop} {x : XM} (hx : WX x) : ∀ (n : Nat) (v1 : Int) (v2 : Int) (v3 : Int) , Rg v1 → Rg v2 → Rg v3 → M_X11_ruleOf_9 q x n v1 v2 v3 → V Γ 2 NF NF D_X11_ruleOf (QI Γ x q) 9 [.ref (gB Γ + 83), vI v1, vI v2, vI v3] [] NF (mk Γ x) := by
  intro n
  induction n with
  | zero =>
    intro v1 v2 v3 r1 r2 r3 h
    rw [M_X11_ruleOf_9.eq_1] at h
    exact h.elim
  | succ n ih =>
    intro v1 v2 v3 r1 r2 r3 h
    rw [M_X11_ruleOf_9.eq_2] at h
    refine V_iload_3 dX11_ruleOf_9 ?_
    refine V_if_lt 50 dX11_ruleOf_10 (by decide) r3 ⟨fun c1 => ?_, fun c1 => ?_⟩
    · have h := h.1 c1
      refine V_iload_2 dX11_ruleOf_50 ?_
      exact V_ireturn dX11_ruleOf_51 rfl ⟨rfl, _, rfl, r2, h⟩
    · have h := h.2 c1
      refine V_aload_0 dX11_ruleOf_13 ?_
      refine V_aload_0 dX11_ruleOf_14 ?_
      refine V_gR dX11_ruleOf_15 fl_R_38 ly_83 (by decide) wr_83_25 ?_
      refine V_bipush dX11_ruleOf_18 (by decide) ?_
      refine V_iload_3 dX11_ruleOf_20 ?_
      refine V_iadd dX11_ruleOf_21 ?_
      obtain ⟨g2, h⟩ := h
      refine V_aI dX11_ruleOf_22 ly_93 (by decide) (by decide) g2 ?_
      refine V_iload_1 dX11_ruleOf_23 ?_
      refine V_cVI2 (My := D_X11_passesRule) dX11_ruleOf_24 ml_R_169 ce_X11_passesRule ly_83 (by decide) cl_11 (by decide) (Nat.le_refl _) (Nat.le_refl _) (by decide) (sumL rfl) (w_X11_passesRule hx (hx _ _) r1 h) (fun z3 hz3 h => ?_)
      refine V_if_eq 42 dX11_ruleOf_27 (by decide) hz3 ⟨fun c4 => ?_, fun c4 => ?_⟩
      · have h := h.1 c4
        refine V_iload_2 dX11_ruleOf_42 ?_
        refine V_istore_2 dX11_ruleOf_43 rfl rfl ?_
        refine V_iinc_3 (a3 := uu) dX11_ruleOf_44 rfl ?_
        refine V_goto 9 dX11_ruleOf_47 (by decide) ?_
        obtain ⟨g5, h⟩ := h
        exact ih _ _ _ r1 r2 g5 h
      · have h := h.2 c4
        refine V_aload_0 dX11_ruleOf_30 ?_
        refine V_gR dX11_ruleOf_31 fl_R_38 ly_83 (by decide) wr_83_25 ?_
        refine V_bipush dX11_ruleOf_34 (by decide) ?_
        refine V_iload_3 dX11_ruleOf_36 ?_
        refine V_iadd dX11_ruleOf_37 ?_
        obtain ⟨g6, h⟩ := h
        refine V_aI dX11_ruleOf_38 ly_93 (by decide) (by decide) g6 ?_
        refine V_goto 43 dX11_ruleOf_39 (by decide) ?_
        refine V_istore_2 dX11_ruleOf_43 rfl rfl ?_
        refine V_iinc_3 (a3 := uu) dX11_ruleOf_44 rfl ?_
        refine V_goto 9 dX11_ruleOf_47 (by decide) ?_
        obtain ⟨g7, h⟩ := h
        exact ih _ _ _ r1 (hx _ _) g7 h
set_option maxRecDepth 100000 in
theorem w_X11_ruleOf {Γ : GE} {x : XM} (hx : WX x) {v1 : Int} {q : Int → Prop} (r1 : Rg v1) (h : M_X11_ruleOf x v1 q) : CV Γ 2 NF NF D_X11_ruleOf [.ref (gB Γ + 83), vI v1] (mk Γ x) (QI Γ x q) := by
  refine CV.of rfl (cat_all rfl) (Nat.le_of_ble_eq_true rfl) ?_
  show V Γ 2 NF NF D_X11_ruleOf (QI Γ x q) 0 [.ref (gB Γ + 83), vI v1, uu, uu] [] NF (mk Γ x)
  unfold M_X11_ruleOf at h
  refine V_iconst dX11_ruleOf_0 ?_
  refine V_istore_2 dX11_ruleOf_1 rfl rfl ?_
  refine V_aload_0 dX11_ruleOf_2 ?_
  refine V_gI dX11_ruleOf_3 fl_R_148 ly_83 (by decide) wn_83_5 ?_
  refine V_iconst dX11_ruleOf_6 ?_
  refine V_isub dX11_ruleOf_7 ?_
  refine V_istore_3 dX11_ruleOf_8 rfl rfl ?_
  obtain ⟨g8, h⟩ := h
  obtain ⟨m9, h⟩ := h
  exact w_X11_ruleOf_9 hx m9 _ _ _ r1 (rgL rfl) g8 h
def M_X11_heapOf (x : XM) (v1 : Int) (q : Int → Prop) : Prop :=
  (0 ≤ v1 ∧ v1 < 31) ∧ M_X11_in x (x 93 (v1.toNat)) 1 6  (fun z2 => ((z2 = 0 → q (-1)) ∧ (¬ z2 = 0 → (0 ≤ v1 ∧ v1 < 31) ∧ (Rg ((x 93 (v1.toNat)) - 1)) ∧ q ((x 93 (v1.toNat)) - 1))))
set_option maxRecDepth 100000 in
theorem w_X11_heapOf {Γ : GE} {x : XM} (hx : WX x) {v1 : Int} {q : Int → Prop} (r1 : Rg v1) (h : M_X11_heapOf x v1 q) : CV Γ 1 NF NF D_X11_heapOf [.ref (gB Γ + 83), vI v1] (mk Γ x) (QI Γ x q) := by
  refine CV.of rfl (cat_all rfl) (Nat.le_of_ble_eq_true rfl) ?_
  show V Γ 1 NF NF D_X11_heapOf (QI Γ x q) 0 [.ref (gB Γ + 83), vI v1] [] NF (mk Γ x)
  unfold M_X11_heapOf at h
  refine V_aload_0 dX11_heapOf_0 ?_
  refine V_gR dX11_heapOf_1 fl_R_38 ly_83 (by decide) wr_83_25 ?_
  refine V_iload_1 dX11_heapOf_4 ?_
  obtain ⟨g1, h⟩ := h
  refine V_aI dX11_heapOf_5 ly_93 (by decide) (by decide) g1 ?_
  refine V_iconst dX11_heapOf_6 ?_
  refine V_bipush dX11_heapOf_7 (by decide) ?_
  refine V_cSI3 (My := D_X11_in) dX11_heapOf_9 ml_R_73 ce_X11_in (Nat.le_refl _) (Nat.le_refl _) (by decide) (sumL rfl) (w_X11_in hx (hx _ _) (rgL rfl) (rgL rfl) h) (fun z2 hz2 h => ?_)
  refine V_if_eq 26 dX11_heapOf_12 (by decide) hz2 ⟨fun c3 => ?_, fun c3 => ?_⟩
  · have h := h.1 c3
    refine V_iconst dX11_heapOf_26 ?_
    exact V_ireturn dX11_heapOf_27 rfl ⟨rfl, _, rfl, (rgL rfl), h⟩
  · have h := h.2 c3
    refine V_aload_0 dX11_heapOf_15 ?_
    refine V_gR dX11_heapOf_16 fl_R_38 ly_83 (by decide) wr_83_25 ?_
    refine V_iload_1 dX11_heapOf_19 ?_
    obtain ⟨g4, h⟩ := h
    refine V_aI dX11_heapOf_20 ly_93 (by decide) (by decide) g4 ?_
    refine V_iconst dX11_heapOf_21 ?_
    refine V_isub dX11_heapOf_22 ?_
    refine V_goto 27 dX11_heapOf_23 (by decide) ?_
    obtain ⟨g5, h⟩ := h
    exact V_ireturn dX11_heapOf_27 rfl ⟨rfl, _, rfl, g5, h⟩
def M_X11_goes (x : XM) (v1 : Int) (q : Int → Prop) : Prop :=
  M_X11_ruleOf x v1  (fun z1 => ((¬ z1 = (-1) → (0 ≤ ((4 * z1) + 3) ∧ ((4 * z1) + 3) < 24) ∧ q (x 86 ((((4 * z1) + 3)).toNat))) ∧ (z1 = (-1) → q (-1))))
set_option maxRecDepth 100000 in
theorem w_X11_goes {Γ : GE} {x : XM} (hx : WX x) {v1 : Int} {q : Int → Prop} (r1 : Rg v1) (h : M_X11_goes x v1 q) : CV Γ 3 NF NF D_X11_goes [.ref (gB Γ + 83), vI v1] (mk Γ x) (QI Γ x q) := by
  refine CV.of rfl (cat_all rfl) (Nat.le_of_ble_eq_true rfl) ?_
  show V Γ 3 NF NF D_X11_goes (QI Γ x q) 0 [.ref (gB Γ + 83), vI v1, uu] [] NF (mk Γ x)
  unfold M_X11_goes at h
  refine V_aload_0 dX11_goes_0 ?_
  refine V_iload_1 dX11_goes_1 ?_
  refine V_cVI1 (My := D_X11_ruleOf) dX11_goes_2 ml_R_173 ce_X11_ruleOf ly_83 (by decide) cl_11 (by decide) (Nat.le_refl _) (Nat.le_refl _) (by decide) (sumL rfl) (w_X11_ruleOf hx r1 h) (fun z1 hz1 h => ?_)
  refine V_istore_2 dX11_goes_5 rfl rfl ?_
  refine V_iload_2 dX11_goes_6 ?_
  refine V_iconst dX11_goes_7 ?_
  refine V_icmp_ne 15 dX11_goes_8 (by decide) hz1 (rgL rfl) ⟨fun c2 => ?_, fun c2 => ?_⟩
  · have h := h.1 c2
    refine V_aload_0 dX11_goes_15 ?_
    refine V_gR dX11_goes_16 fl_R_17 ly_83 (by decide) wr_83_6 ?_
    refine V_iconst dX11_goes_19 ?_
    refine V_iload_2 dX11_goes_20 ?_
    refine V_imul dX11_goes_21 ?_
    refine V_iconst dX11_goes_22 ?_
    refine V_iadd dX11_goes_23 ?_
    obtain ⟨g3, h⟩ := h
    refine V_aI dX11_goes_24 ly_86 (by decide) (by decide) g3 ?_
    exact V_ireturn dX11_goes_25 rfl ⟨rfl, _, rfl, (hx _ _), h⟩
  · have h := h.2 c2
    refine V_iconst dX11_goes_11 ?_
    refine V_goto 25 dX11_goes_12 (by decide) ?_
    exact V_ireturn dX11_goes_25 rfl ⟨rfl, _, rfl, (rgL rfl), h⟩
def M_X11_those_114 (q : Int → Prop) (K7 : Int → Int → Int → Int → Prop) (x : XM) (v1 : Int) (v2 : Int) (v3 : Int) (v4 : Int) (s0 : Int) : Prop :=
  ((s0 = 0 → (Rg (v4 + 1)) ∧ K7 v1 (jor v2 0) v3 (v4 + 1)) ∧ (¬ s0 = 0 → (Rg (v4 + 1)) ∧ K7 v1 (jor v2 (jshl 1 v4)) v3 (v4 + 1)))
def M_X11_those_113 (q : Int → Prop) (K7 : Int → Int → Int → Int → Prop) (x : XM) (v1 : Int) (v2 : Int) (v3 : Int) (v4 : Int) : Prop :=
  M_X11_those_114 q K7 x v1 v2 v3 v4 0
def M_X11_those_39 (q : Int → Prop) (K7 : Int → Int → Int → Int → Prop) (x : XM) (v1 : Int) (v2 : Int) (v4 : Int) (v5 : Int) (s0 : Int) (s1 : Int) : Prop :=
  ((¬ v1 = 0 → ((¬ v1 = 1 → M_X11_heapOf x v4  (fun z7 => ((z7 = (-1) → M_X11_those_113 q K7 x v1 v2 (jor s1 s0) v4) ∧ (¬ z7 = (-1) → M_X11_heapOf x v4  (fun z12 => M_X11_goes x v4  (fun z13 => ((z12 = z13 → M_X11_those_113 q K7 x v1 v2 (jor s1 s0) v4) ∧ (¬ z12 = z13 → M_X11_those_114 q K7 x v1 v2 (jor s1 s0) v4 1)))))))) ∧ (v1 = 1 → ((¬ v5 = (-1) → M_X11_those_114 q K7 x v1 v2 (jor s1 s0) v4 0) ∧ (v5 = (-1) → M_X11_those_114 q K7 x v1 v2 (jor s1 s0) v4 1))))) ∧ (v1 = 0 → (0 ≤ v4 ∧ v4 < 31) ∧ (((x 93 (v4.toNat)) < 8 → M_X11_those_114 q K7 x v1 v2 (jor s1 s0) v4 0) ∧ (¬ ((x 93 (v4.toNat)) < 8) → M_X11_those_114 q K7 x v1 v2 (jor s1 s0) v4 1))))
def M_X11_those_7 (q : Int → Prop) (x : XM) : Nat → Int → Int → Int → Int → Prop
  | 0, _, _, _, _ => False
  | n + 1, v1, v2, v3, v4 =>
  (((x 83 3) ≤ v4 → ((¬ v1 = 3 → q v2) ∧ (v1 = 3 → q (jand ((jshl 1 (x 83 5)) - 1) (jxor v3 (-1)))))) ∧ (¬ ((x 83 3) ≤ v4) → M_X11_ruleOf x v4  (fun z3 => ((¬ z3 = (-1) → M_X11_those_39 q (M_X11_those_7 q x n) x v1 v2 v4 z3 (jshl 1 z3) v3) ∧ (z3 = (-1) → M_X11_those_39 q (M_X11_those_7 q x n) x v1 v2 v4 z3 0 v3)))))
def M_X11_those (x : XM) (v1 : Int) (q : Int → Prop) : Prop :=
  ∃ m : Nat, M_X11_those_7 q x m v1 0 0 0
set_option maxRecDepth 100000 in
theorem w_X11_those_114 {Γ : GE} {q : Int → Prop} {K7 : Int → Int → Int → Int → Prop} {x : XM} (hx : WX x) (hK7 : ∀ (v1 : Int) (v2 : Int) (v3 : Int) (v4 : Int) , Rg v1 → Rg v2 → Rg v3 → Rg v4 → K7 v1 v2 v3 v4 → V Γ 4 NF NF D_X11_those (QI Γ x q) 7 [.ref (gB Γ + 83), vI v1, vI v2, vI v3, vI v4, uu, uu] [] NF (mk Γ x)) : ∀ (v1 : Int) (v2 : Int) (v3 : Int) (v4 : Int) (s0 : Int) , Rg v1 → Rg v2 → Rg v3 → Rg v4 → Rg s0 → M_X11_those_114 q K7 x v1 v2 v3 v4 s0 → V Γ 4 NF NF D_X11_those (QI Γ x q) 114 [.ref (gB Γ + 83), vI v1, vI v2, vI v3, vI v4, uu, uu] [vI s0] NF (mk Γ x) := by
  intro v1 v2 v3 v4 s0 r1 r2 r3 r4 rs0 h
  unfold M_X11_those_114 at h
  refine V_istore_6 dX11_those_114 rfl rfl ?_
  refine V_iload_2 dX11_those_116 ?_
  refine V_iload_6 dX11_those_117 ?_
  refine V_if_eq 129 dX11_those_119 (by decide) rs0 ⟨fun c9 => ?_, fun c9 => ?_⟩
  · have h := h.1 c9
    refine V_iconst dX11_those_129 ?_
    refine V_ior dX11_those_130 ?_
    refine V_istore_2 dX11_those_131 rfl rfl ?_
    refine V_iinc_4 (a4 := uu) dX11_those_132 rfl ?_
    refine V_goto 7 dX11_those_135 (by decide) ?_
    obtain ⟨g10, h⟩ := h
    refine V_fg_6 ?_
    exact hK7 _ _ _ _ r1 (Rg.of _) r3 g10 h
  · have h := h.2 c9
    refine V_iconst dX11_those_122 ?_
    refine V_iload_4 dX11_those_123 ?_
    refine V_ishl dX11_those_125 ?_
    refine V_goto 130 dX11_those_126 (by decide) ?_
    refine V_ior dX11_those_130 ?_
    refine V_istore_2 dX11_those_131 rfl rfl ?_
    refine V_iinc_4 (a4 := uu) dX11_those_132 rfl ?_
    refine V_goto 7 dX11_those_135 (by decide) ?_
    obtain ⟨g11, h⟩ := h
    refine V_fg_6 ?_
    exact hK7 _ _ _ _ r1 (Rg.of _) r3 g11 h
set_option maxRecDepth 100000 in
theorem w_X11_those_113 {Γ : GE} {q : Int → Prop} {K7 : Int → Int → Int → Int → Prop} {x : XM} (hx : WX x) (hK7 : ∀ (v1 : Int) (v2 : Int) (v3 : Int) (v4 : Int) , Rg v1 → Rg v2 → Rg v3 → Rg v4 → K7 v1 v2 v3 v4 → V Γ 4 NF NF D_X11_those (QI Γ x q) 7 [.ref (gB Γ + 83), vI v1, vI v2, vI v3, vI v4, uu, uu] [] NF (mk Γ x)) : ∀ (v1 : Int) (v2 : Int) (v3 : Int) (v4 : Int) , Rg v1 → Rg v2 → Rg v3 → Rg v4 → M_X11_those_113 q K7 x v1 v2 v3 v4 → V Γ 4 NF NF D_X11_those (QI Γ x q) 113 [.ref (gB Γ + 83), vI v1, vI v2, vI v3, vI v4, uu, uu] [] NF (mk Γ x) := by
  intro v1 v2 v3 v4 r1 r2 r3 r4 h
  unfold M_X11_those_113 at h
  refine V_iconst dX11_those_113 ?_
  exact w_X11_those_114 hx (hK7) _ _ _ _ _ r1 r2 r3 r4 (rgL rfl) h
set_option maxRecDepth 100000 in
theorem w_X11_those_39 {Γ : GE} {q : Int → Prop} {K7 : Int → Int → Int → Int → Prop} {x : XM} (hx : WX x) (hK7 : ∀ (v1 : Int) (v2 : Int) (v3 : Int) (v4 : Int) , Rg v1 → Rg v2 → Rg v3 → Rg v4 → K7 v1 v2 v3 v4 → V Γ 4 NF NF D_X11_those (QI Γ x q) 7 [.ref (gB Γ + 83), vI v1, vI v2, vI v3, vI v4, uu, uu] [] NF (mk Γ x)) : ∀ (v1 : Int) (v2 : Int) (v4 : Int) (v5 : Int) (s0 : Int) (s1 : Int) , Rg v1 → Rg v2 → Rg v4 → Rg v5 → Rg s0 → Rg s1 → M_X11_those_39 q K7 x v1 v2 v4 v5 s0 s1 → V Γ 4 NF NF D_X11_those (QI Γ x q) 39 [.ref (gB Γ + 83), vI v1, vI v2, uu, vI v4, vI v5, uu] [vI s0, vI s1] NF (mk Γ x) := by
  intro v1 v2 v4 v5 s0 s1 r1 r2 r4 r5 rs0 rs1 h
  unfold M_X11_those_39 at h
  refine V_ior dX11_those_39 ?_
  refine V_istore_3 dX11_those_40 rfl rfl ?_
  refine V_iload_1 dX11_those_41 ?_
  refine V_if_ne 65 dX11_those_42 (by decide) r1 ⟨fun c5 => ?_, fun c5 => ?_⟩
  · have h := h.1 c5
    refine V_iload_1 dX11_those_65 ?_
    refine V_iconst dX11_those_66 ?_
    refine V_icmp_ne 84 dX11_those_67 (by decide) r1 (rgL rfl) ⟨fun c6 => ?_, fun c6 => ?_⟩
    · have h := h.1 c6
      refine V_aload_0 dX11_those_84 ?_
      refine V_iload_4 dX11_those_85 ?_
      refine V_cVI1 (My := D_X11_heapOf) dX11_those_87 ml_R_189 ce_X11_heapOf ly_83 (by decide) cl_11 (by decide) (Nat.le_refl _) (Nat.le_refl _) (by decide) (sumL rfl) (w_X11_heapOf hx r4 h) (fun z7 hz7 h => ?_)
      refine V_iconst dX11_those_90 ?_
      refine V_icmp_eq 113 dX11_those_91 (by decide) hz7 (rgL rfl) ⟨fun c8 => ?_, fun c8 => ?_⟩
      · have h := h.1 c8
        refine V_fg_5 ?_
        exact w_X11_those_113 hx (hK7) _ _ _ _ r1 r2 (Rg.of _) r4 h
      · have h := h.2 c8
        refine V_aload_0 dX11_those_94 ?_
        refine V_iload_4 dX11_those_95 ?_
        refine V_cVI1 (My := D_X11_heapOf) dX11_those_97 ml_R_189 ce_X11_heapOf ly_83 (by decide) cl_11 (by decide) (Nat.le_refl _) (Nat.le_refl _) (by decide) (sumL rfl) (w_X11_heapOf hx r4 h) (fun z12 hz12 h => ?_)
        refine V_aload_0 dX11_those_100 ?_
        refine V_iload_4 dX11_those_101 ?_
        refine V_cVI1 (My := D_X11_goes) dX11_those_103 ml_R_192 ce_X11_goes ly_83 (by decide) cl_11 (by decide) (Nat.le_refl _) (Nat.le_refl _) (by decide) (sumL rfl) (w_X11_goes hx r4 h) (fun z13 hz13 h => ?_)
        refine V_icmp_eq 113 dX11_those_106 (by decide) hz12 hz13 ⟨fun c14 => ?_, fun c14 => ?_⟩
        · have h := h.1 c14
          refine V_fg_5 ?_
          exact w_X11_those_113 hx (hK7) _ _ _ _ r1 r2 (Rg.of _) r4 h
        · have h := h.2 c14
          refine V_iconst dX11_those_109 ?_
          refine V_goto 114 dX11_those_110 (by decide) ?_
          refine V_fg_5 ?_
          exact w_X11_those_114 hx (hK7) _ _ _ _ _ r1 r2 (Rg.of _) r4 (rgL rfl) h
    · have h := h.2 c6
      refine V_iload_5 dX11_those_70 ?_
      refine V_iconst dX11_those_72 ?_
      refine V_icmp_ne 80 dX11_those_73 (by decide) r5 (rgL rfl) ⟨fun c15 => ?_, fun c15 => ?_⟩
      · have h := h.1 c15
        refine V_iconst dX11_those_80 ?_
        refine V_goto 114 dX11_those_81 (by decide) ?_
        refine V_fg_5 ?_
        exact w_X11_those_114 hx (hK7) _ _ _ _ _ r1 r2 (Rg.of _) r4 (rgL rfl) h
      · have h := h.2 c15
        refine V_iconst dX11_those_76 ?_
        refine V_goto 114 dX11_those_77 (by decide) ?_
        refine V_fg_5 ?_
        exact w_X11_those_114 hx (hK7) _ _ _ _ _ r1 r2 (Rg.of _) r4 (rgL rfl) h
  · have h := h.2 c5
    refine V_aload_0 dX11_those_45 ?_
    refine V_gR dX11_those_46 fl_R_38 ly_83 (by decide) wr_83_25 ?_
    refine V_iload_4 dX11_those_49 ?_
    obtain ⟨g16, h⟩ := h
    refine V_aI dX11_those_51 ly_93 (by decide) (by decide) g16 ?_
    refine V_bipush dX11_those_52 (by decide) ?_
    refine V_icmp_lt 61 dX11_those_54 (by decide) (hx _ _) (rgL rfl) ⟨fun c17 => ?_, fun c17 => ?_⟩
    · have h := h.1 c17
      refine V_iconst dX11_those_61 ?_
      refine V_goto 114 dX11_those_62 (by decide) ?_
      refine V_fg_5 ?_
      exact w_X11_those_114 hx (hK7) _ _ _ _ _ r1 r2 (Rg.of _) r4 (rgL rfl) h
    · have h := h.2 c17
      refine V_iconst dX11_those_57 ?_
      refine V_goto 114 dX11_those_58 (by decide) ?_
      refine V_fg_5 ?_
      exact w_X11_those_114 hx (hK7) _ _ _ _ _ r1 r2 (Rg.of _) r4 (rgL rfl) h
set_option maxRecDepth 100000 in
theorem w_X11_those_7 {Γ : GE} {q : Int → Prop} {x : XM} (hx : WX x) : ∀ (n : Nat) (v1 : Int) (v2 : Int) (v3 : Int) (v4 : Int) , Rg v1 → Rg v2 → Rg v3 → Rg v4 → M_X11_those_7 q x n v1 v2 v3 v4 → V Γ 4 NF NF D_X11_those (QI Γ x q) 7 [.ref (gB Γ + 83), vI v1, vI v2, vI v3, vI v4, uu, uu] [] NF (mk Γ x) := by
  intro n
  induction n with
  | zero =>
    intro v1 v2 v3 v4 r1 r2 r3 r4 h
    rw [M_X11_those_7.eq_1] at h
    exact h.elim
  | succ n ih =>
    intro v1 v2 v3 v4 r1 r2 r3 r4 h
    rw [M_X11_those_7.eq_2] at h
    refine V_iload_4 dX11_those_7 ?_
    refine V_aload_0 dX11_those_9 ?_
    refine V_gI dX11_those_10 fl_R_145 ly_83 (by decide) wn_83_3 ?_
    refine V_icmp_ge 138 dX11_those_13 (by decide) r4 (hx _ _) ⟨fun c1 => ?_, fun c1 => ?_⟩
    · have h := h.1 c1
      refine V_iload_1 dX11_those_138 ?_
      refine V_iconst dX11_those_139 ?_
      refine V_icmp_ne 158 dX11_those_140 (by decide) r1 (rgL rfl) ⟨fun c2 => ?_, fun c2 => ?_⟩
      · have h := h.1 c2
        refine V_iload_2 dX11_those_158 ?_
        exact V_ireturn dX11_those_159 rfl ⟨rfl, _, rfl, r2, h⟩
      · have h := h.2 c2
        refine V_iconst dX11_those_143 ?_
        refine V_aload_0 dX11_those_144 ?_
        refine V_gI dX11_those_145 fl_R_148 ly_83 (by decide) wn_83_5 ?_
        refine V_ishl dX11_those_148 ?_
        refine V_iconst dX11_those_149 ?_
        refine V_isub dX11_those_150 ?_
        refine V_iload_3 dX11_those_151 ?_
        refine V_iconst dX11_those_152 ?_
        refine V_ixor dX11_those_153 ?_
        refine V_iand dX11_those_154 ?_
        refine V_goto 159 dX11_those_155 (by decide) ?_
        exact V_ireturn dX11_those_159 rfl ⟨rfl, _, rfl, (Rg.of _), h⟩
    · have h := h.2 c1
      refine V_aload_0 dX11_those_16 ?_
      refine V_iload_4 dX11_those_17 ?_
      refine V_cVI1 (My := D_X11_ruleOf) dX11_those_19 ml_R_173 ce_X11_ruleOf ly_83 (by decide) cl_11 (by decide) (Nat.le_refl _) (Nat.le_refl _) (by decide) (sumL rfl) (w_X11_ruleOf hx r4 h) (fun z3 hz3 h => ?_)
      refine V_istore_5 dX11_those_22 rfl rfl ?_
      refine V_iload_3 dX11_those_24 ?_
      refine V_iload_5 dX11_those_25 ?_
      refine V_iconst dX11_those_27 ?_
      refine V_icmp_ne 35 dX11_those_28 (by decide) hz3 (rgL rfl) ⟨fun c4 => ?_, fun c4 => ?_⟩
      · have h := h.1 c4
        refine V_iconst dX11_those_35 ?_
        refine V_iload_5 dX11_those_36 ?_
        refine V_ishl dX11_those_38 ?_
        refine V_fg_3 ?_
        exact w_X11_those_39 hx (ih) _ _ _ _ _ _ r1 r2 r4 hz3 (Rg.of _) r3 h
      · have h := h.2 c4
        refine V_iconst dX11_those_31 ?_
        refine V_goto 39 dX11_those_32 (by decide) ?_
        refine V_fg_3 ?_
        exact w_X11_those_39 hx (ih) _ _ _ _ _ _ r1 r2 r4 hz3 (rgL rfl) r3 h
set_option maxRecDepth 100000 in
theorem w_X11_those {Γ : GE} {x : XM} (hx : WX x) {v1 : Int} {q : Int → Prop} (r1 : Rg v1) (h : M_X11_those x v1 q) : CV Γ 4 NF NF D_X11_those [.ref (gB Γ + 83), vI v1] (mk Γ x) (QI Γ x q) := by
  refine CV.of rfl (cat_all rfl) (Nat.le_of_ble_eq_true rfl) ?_
  show V Γ 4 NF NF D_X11_those (QI Γ x q) 0 [.ref (gB Γ + 83), vI v1, uu, uu, uu, uu, uu] [] NF (mk Γ x)
  unfold M_X11_those at h
  refine V_iconst dX11_those_0 ?_
  refine V_istore_2 dX11_those_1 rfl rfl ?_
  refine V_iconst dX11_those_2 ?_
  refine V_istore_3 dX11_those_3 rfl rfl ?_
  refine V_iconst dX11_those_4 ?_
  refine V_istore_4 dX11_those_5 rfl rfl ?_
  obtain ⟨m9, h⟩ := h
  exact w_X11_those_7 hx m9 _ _ _ _ r1 (rgL rfl) (rgL rfl) (rgL rfl) h
def M_X11_has (x : XM) (v0 : Int) (v1 : Int) (q : Int → Prop) : Prop :=
  ((¬ (jand (jshr v0 v1) 1) = 1 → q 0) ∧ ((jand (jshr v0 v1) 1) = 1 → q 1))
set_option maxRecDepth 100000 in
theorem w_X11_has {Γ : GE} {x : XM} (hx : WX x) {v0 v1 : Int} {q : Int → Prop} (r0 : Rg v0) (r1 : Rg v1) (h : M_X11_has x v0 v1 q) : CV Γ 0 NF NF D_X11_has [vI v0, vI v1] (mk Γ x) (QI Γ x q) := by
  refine CV.of rfl (cat_all rfl) (Nat.le_of_ble_eq_true rfl) ?_
  show V Γ 0 NF NF D_X11_has (QI Γ x q) 0 [vI v0, vI v1] [] NF (mk Γ x)
  unfold M_X11_has at h
  refine V_iload_0 dX11_has_0 ?_
  refine V_iload_1 dX11_has_1 ?_
  refine V_ishr dX11_has_2 ?_
  refine V_iconst dX11_has_3 ?_
  refine V_iand dX11_has_4 ?_
  refine V_iconst dX11_has_5 ?_
  refine V_icmp_ne 13 dX11_has_6 (by decide) (Rg.of _) (rgL rfl) ⟨fun c1 => ?_, fun c1 => ?_⟩
  · have h := h.1 c1
    refine V_iconst dX11_has_13 ?_
    exact V_zreturn dX11_has_14 rfl (Or.inl rfl) ⟨rfl, _, rfl, (rgL rfl), h⟩
  · have h := h.2 c1
    refine V_iconst dX11_has_9 ?_
    refine V_goto 14 dX11_has_10 (by decide) ?_
    exact V_zreturn dX11_has_14 rfl (Or.inr rfl) ⟨rfl, _, rfl, (rgL rfl), h⟩
def M_X11_holds (x : XM) (v1 : Int) (q : Int → Prop) : Prop :=
  M_X11_markOf x v1 0  (fun z1 => M_X11_markOf x v1 1  (fun z2 => (0 ≤ (12 + v1) ∧ (12 + v1) < 31) ∧ (Rg (((z1 + 1) * z2) - (5 * (x 93 (((12 + v1)).toNat))))) ∧ ((0 ≤ (((z1 + 1) * z2) - (5 * (x 93 (((12 + v1)).toNat)))) → q (((z1 + 1) * z2) - (5 * (x 93 (((12 + v1)).toNat))))) ∧ (¬ (0 ≤ (((z1 + 1) * z2) - (5 * (x 93 (((12 + v1)).toNat))))) → q 0))))
set_option maxRecDepth 100000 in
theorem w_X11_holds {Γ : GE} {x : XM} (hx : WX x) {v1 : Int} {q : Int → Prop} (r1 : Rg v1) (h : M_X11_holds x v1 q) : CV Γ 1 NF NF D_X11_holds [.ref (gB Γ + 83), vI v1] (mk Γ x) (QI Γ x q) := by
  refine CV.of rfl (cat_all rfl) (Nat.le_of_ble_eq_true rfl) ?_
  show V Γ 1 NF NF D_X11_holds (QI Γ x q) 0 [.ref (gB Γ + 83), vI v1, uu] [] NF (mk Γ x)
  unfold M_X11_holds at h
  refine V_aload_0 dX11_holds_0 ?_
  refine V_iload_1 dX11_holds_1 ?_
  refine V_iconst dX11_holds_2 ?_
  refine V_cVI2 (My := D_X11_markOf) dX11_holds_3 ml_R_163 ce_X11_markOf ly_83 (by decide) cl_11 (by decide) (Nat.le_refl _) (Nat.le_refl _) (by decide) (sumL rfl) (w_X11_markOf hx r1 (rgL rfl) h) (fun z1 hz1 h => ?_)
  refine V_iconst dX11_holds_6 ?_
  refine V_iadd dX11_holds_7 ?_
  refine V_aload_0 dX11_holds_8 ?_
  refine V_iload_1 dX11_holds_9 ?_
  refine V_iconst dX11_holds_10 ?_
  refine V_cVI2 (My := D_X11_markOf) dX11_holds_11 ml_R_163 ce_X11_markOf ly_83 (by decide) cl_11 (by decide) (Nat.le_refl _) (Nat.le_refl _) (by decide) (sumL rfl) (w_X11_markOf hx r1 (rgL rfl) h) (fun z2 hz2 h => ?_)
  refine V_imul dX11_holds_14 ?_
  refine V_iconst dX11_holds_15 ?_
  refine V_aload_0 dX11_holds_16 ?_
  refine V_gR dX11_holds_17 fl_R_38 ly_83 (by decide) wr_83_25 ?_
  refine V_bipush dX11_holds_20 (by decide) ?_
  refine V_iload_1 dX11_holds_22 ?_
  refine V_iadd dX11_holds_23 ?_
  obtain ⟨g3, h⟩ := h
  refine V_aI dX11_holds_24 ly_93 (by decide) (by decide) g3 ?_
  refine V_imul dX11_holds_25 ?_
  refine V_isub dX11_holds_26 ?_
  refine V_istore_2 dX11_holds_27 rfl rfl ?_
  refine V_iload_2 dX11_holds_28 ?_
  obtain ⟨g4, h⟩ := h
  refine V_if_ge 36 dX11_holds_29 (by decide) g4 ⟨fun c5 => ?_, fun c5 => ?_⟩
  · have h := h.1 c5
    refine V_iload_2 dX11_holds_36 ?_
    exact V_ireturn dX11_holds_37 rfl ⟨rfl, _, rfl, g4, h⟩
  · have h := h.2 c5
    refine V_iconst dX11_holds_32 ?_
    refine V_goto 37 dX11_holds_33 (by decide) ?_
    exact V_ireturn dX11_holds_37 rfl ⟨rfl, _, rfl, (rgL rfl), h⟩
def M_X11_holdsOf_4 (q : Int → Prop) (x : XM) : Nat → Int → Int → Int → Prop
  | 0, _, _, _ => False
  | n + 1, v1, v2, v3 =>
  (((x 83 3) ≤ v3 → q v2) ∧ (¬ ((x 83 3) ≤ v3) → M_X11_has x v1 v3  (fun z2 => ((z2 = 0 → (Rg (v2 + 0)) ∧ (Rg (v3 + 1)) ∧ (M_X11_holdsOf_4 q x n) v1 (v2 + 0) (v3 + 1)) ∧ (¬ z2 = 0 → M_X11_holds x v3  (fun z6 => (Rg (v2 + z6)) ∧ (Rg (v3 + 1)) ∧ (M_X11_holdsOf_4 q x n) v1 (v2 + z6) (v3 + 1)))))))
def M_X11_holdsOf (x : XM) (v1 : Int) (q : Int → Prop) : Prop :=
  ∃ m : Nat, M_X11_holdsOf_4 q x m v1 0 0
set_option maxRecDepth 100000 in
theorem w_X11_holdsOf_4 {Γ : GE} {q : Int → Prop} {x : XM} (hx : WX x) : ∀ (n : Nat) (v1 : Int) (v2 : Int) (v3 : Int) , Rg v1 → Rg v2 → Rg v3 → M_X11_holdsOf_4 q x n v1 v2 v3 → V Γ 2 NF NF D_X11_holdsOf (QI Γ x q) 4 [.ref (gB Γ + 83), vI v1, vI v2, vI v3] [] NF (mk Γ x) := by
  intro n
  induction n with
  | zero =>
    intro v1 v2 v3 r1 r2 r3 h
    rw [M_X11_holdsOf_4.eq_1] at h
    exact h.elim
  | succ n ih =>
    intro v1 v2 v3 r1 r2 r3 h
    rw [M_X11_holdsOf_4.eq_2] at h
    refine V_iload_3 dX11_holdsOf_4 ?_
    refine V_aload_0 dX11_holdsOf_5 ?_
    refine V_gI dX11_holdsOf_6 fl_R_145 ly_83 (by decide) wn_83_3 ?_
    refine V_icmp_ge 38 dX11_holdsOf_9 (by decide) r3 (hx _ _) ⟨fun c1 => ?_, fun c1 => ?_⟩
    · have h := h.1 c1
      refine V_iload_2 dX11_holdsOf_38 ?_
      exact V_ireturn dX11_holdsOf_39 rfl ⟨rfl, _, rfl, r2, h⟩
    · have h := h.2 c1
      refine V_iload_2 dX11_holdsOf_12 ?_
      refine V_iload_1 dX11_holdsOf_13 ?_
      refine V_iload_3 dX11_holdsOf_14 ?_
      refine V_cSI2 (My := D_X11_has) dX11_holdsOf_15 ml_R_177 ce_X11_has (Nat.le_refl _) (Nat.le_refl _) (by decide) (sumL rfl) (w_X11_has hx r1 r3 h) (fun z2 hz2 h => ?_)
      refine V_if_eq 29 dX11_holdsOf_18 (by decide) hz2 ⟨fun c3 => ?_, fun c3 => ?_⟩
      · have h := h.1 c3
        refine V_iconst dX11_holdsOf_29 ?_
        refine V_iadd dX11_holdsOf_30 ?_
        refine V_istore_2 dX11_holdsOf_31 rfl rfl ?_
        refine V_iinc_3 (a3 := uu) dX11_holdsOf_32 rfl ?_
        refine V_goto 4 dX11_holdsOf_35 (by decide) ?_
        obtain ⟨g4, h⟩ := h
        obtain ⟨g5, h⟩ := h
        exact ih _ _ _ r1 g4 g5 h
      · have h := h.2 c3
        refine V_aload_0 dX11_holdsOf_21 ?_
        refine V_iload_3 dX11_holdsOf_22 ?_
        refine V_cVI1 (My := D_X11_holds) dX11_holdsOf_23 ml_R_180 ce_X11_holds ly_83 (by decide) cl_11 (by decide) (Nat.le_refl _) (Nat.le_refl _) (by decide) (sumL rfl) (w_X11_holds hx r3 h) (fun z6 hz6 h => ?_)
        refine V_goto 30 dX11_holdsOf_26 (by decide) ?_
        refine V_iadd dX11_holdsOf_30 ?_
        refine V_istore_2 dX11_holdsOf_31 rfl rfl ?_
        refine V_iinc_3 (a3 := uu) dX11_holdsOf_32 rfl ?_
        refine V_goto 4 dX11_holdsOf_35 (by decide) ?_
        obtain ⟨g7, h⟩ := h
        obtain ⟨g8, h⟩ := h
        exact ih _ _ _ r1 g7 g8 h
set_option maxRecDepth 100000 in
theorem w_X11_holdsOf {Γ : GE} {x : XM} (hx : WX x) {v1 : Int} {q : Int → Prop} (r1 : Rg v1) (h : M_X11_holdsOf x v1 q) : CV Γ 2 NF NF D_X11_holdsOf [.ref (gB Γ + 83), vI v1] (mk Γ x) (QI Γ x q) := by
  refine CV.of rfl (cat_all rfl) (Nat.le_of_ble_eq_true rfl) ?_
  show V Γ 2 NF NF D_X11_holdsOf (QI Γ x q) 0 [.ref (gB Γ + 83), vI v1, uu, uu] [] NF (mk Γ x)
  unfold M_X11_holdsOf at h
  refine V_iconst dX11_holdsOf_0 ?_
  refine V_istore_2 dX11_holdsOf_1 rfl rfl ?_
  refine V_iconst dX11_holdsOf_2 ?_
  refine V_istore_3 dX11_holdsOf_3 rfl rfl ?_
  obtain ⟨m9, h⟩ := h
  exact w_X11_holdsOf_4 hx m9 _ _ _ r1 (rgL rfl) (rgL rfl) h
def M_X11_heaviest_51 (q : Int → Prop) (K4 : Int → Int → Prop) (x : XM) (v1 : Int) (v2 : Int) (s0 : Int) : Prop :=
  ((s0 = 0 → (Rg (v2 + 1)) ∧ K4 v1 (v2 + 1)) ∧ (¬ s0 = 0 → (Rg (v2 + 1)) ∧ K4 v2 (v2 + 1)))
def M_X11_heaviest_50 (q : Int → Prop) (K4 : Int → Int → Prop) (x : XM) (v1 : Int) (v2 : Int) : Prop :=
  M_X11_heaviest_51 q K4 x v1 v2 0
def M_X11_heaviest_46 (q : Int → Prop) (K4 : Int → Int → Prop) (x : XM) (v1 : Int) (v2 : Int) : Prop :=
  M_X11_heaviest_51 q K4 x v1 v2 1
def M_X11_heaviest_4 (q : Int → Prop) (x : XM) : Nat → Int → Int → Prop
  | 0, _, _ => False
  | n + 1, v1, v2 =>
  ((6 ≤ v2 → q v1) ∧ (¬ (6 ≤ v2) → (Rg (1 + v2)) ∧ M_X11_setIn x (1 + v2)  (fun z3 => ((z3 = 0 → M_X11_heaviest_50 q (M_X11_heaviest_4 q x n) x v1 v2) ∧ (¬ z3 = 0 → ((v1 = (-1) → M_X11_heaviest_46 q (M_X11_heaviest_4 q x n) x v1 v2) ∧ (¬ v1 = (-1) → M_X11_holdsOf x z3  (fun z9 => (Rg (1 + v1)) ∧ M_X11_setIn x (1 + v1)  (fun z11 => M_X11_holdsOf x z11  (fun z12 => ((z9 ≤ z12 → M_X11_heaviest_50 q (M_X11_heaviest_4 q x n) x v1 v2) ∧ (¬ (z9 ≤ z12) → M_X11_heaviest_46 q (M_X11_heaviest_4 q x n) x v1 v2))))))))))))
def M_X11_heaviest (x : XM) (q : Int → Prop) : Prop :=
  ∃ m : Nat, M_X11_heaviest_4 q x m (-1) 0
set_option maxRecDepth 100000 in
theorem w_X11_heaviest_51 {Γ : GE} {q : Int → Prop} {K4 : Int → Int → Prop} {x : XM} (hx : WX x) (hK4 : ∀ (v1 : Int) (v2 : Int) , Rg v1 → Rg v2 → K4 v1 v2 → V Γ 3 NF NF D_X11_heaviest (QI Γ x q) 4 [.ref (gB Γ + 83), vI v1, vI v2, uu, uu] [] NF (mk Γ x)) : ∀ (v1 : Int) (v2 : Int) (s0 : Int) , Rg v1 → Rg v2 → Rg s0 → M_X11_heaviest_51 q K4 x v1 v2 s0 → V Γ 3 NF NF D_X11_heaviest (QI Γ x q) 51 [.ref (gB Γ + 83), vI v1, vI v2, uu, uu] [vI s0] NF (mk Γ x) := by
  intro v1 v2 s0 r1 r2 rs0 h
  unfold M_X11_heaviest_51 at h
  refine V_istore_4 dX11_heaviest_51 rfl rfl ?_
  refine V_iload_4 dX11_heaviest_53 ?_
  refine V_if_eq 62 dX11_heaviest_55 (by decide) rs0 ⟨fun c5 => ?_, fun c5 => ?_⟩
  · have h := h.1 c5
    refine V_iload_1 dX11_heaviest_62 ?_
    refine V_istore_1 dX11_heaviest_63 rfl rfl ?_
    refine V_iinc_2 (a2 := uu) dX11_heaviest_64 rfl ?_
    refine V_goto 4 dX11_heaviest_67 (by decide) ?_
    obtain ⟨g6, h⟩ := h
    refine V_fg_4 ?_
    exact hK4 _ _ r1 g6 h
  · have h := h.2 c5
    refine V_iload_2 dX11_heaviest_58 ?_
    refine V_goto 63 dX11_heaviest_59 (by decide) ?_
    refine V_istore_1 dX11_heaviest_63 rfl rfl ?_
    refine V_iinc_2 (a2 := uu) dX11_heaviest_64 rfl ?_
    refine V_goto 4 dX11_heaviest_67 (by decide) ?_
    obtain ⟨g7, h⟩ := h
    refine V_fg_4 ?_
    exact hK4 _ _ r2 g7 h
set_option maxRecDepth 100000 in
theorem w_X11_heaviest_50 {Γ : GE} {q : Int → Prop} {K4 : Int → Int → Prop} {x : XM} (hx : WX x) (hK4 : ∀ (v1 : Int) (v2 : Int) , Rg v1 → Rg v2 → K4 v1 v2 → V Γ 3 NF NF D_X11_heaviest (QI Γ x q) 4 [.ref (gB Γ + 83), vI v1, vI v2, uu, uu] [] NF (mk Γ x)) : ∀ (v1 : Int) (v2 : Int) , Rg v1 → Rg v2 → M_X11_heaviest_50 q K4 x v1 v2 → V Γ 3 NF NF D_X11_heaviest (QI Γ x q) 50 [.ref (gB Γ + 83), vI v1, vI v2, uu, uu] [] NF (mk Γ x) := by
  intro v1 v2 r1 r2 h
  unfold M_X11_heaviest_50 at h
  refine V_iconst dX11_heaviest_50 ?_
  exact w_X11_heaviest_51 hx (hK4) _ _ _ r1 r2 (rgL rfl) h
set_option maxRecDepth 100000 in
theorem w_X11_heaviest_46 {Γ : GE} {q : Int → Prop} {K4 : Int → Int → Prop} {x : XM} (hx : WX x) (hK4 : ∀ (v1 : Int) (v2 : Int) , Rg v1 → Rg v2 → K4 v1 v2 → V Γ 3 NF NF D_X11_heaviest (QI Γ x q) 4 [.ref (gB Γ + 83), vI v1, vI v2, uu, uu] [] NF (mk Γ x)) : ∀ (v1 : Int) (v2 : Int) , Rg v1 → Rg v2 → M_X11_heaviest_46 q K4 x v1 v2 → V Γ 3 NF NF D_X11_heaviest (QI Γ x q) 46 [.ref (gB Γ + 83), vI v1, vI v2, uu, uu] [] NF (mk Γ x) := by
  intro v1 v2 r1 r2 h
  unfold M_X11_heaviest_46 at h
  refine V_iconst dX11_heaviest_46 ?_
  refine V_goto 51 dX11_heaviest_47 (by decide) ?_
  exact w_X11_heaviest_51 hx (hK4) _ _ _ r1 r2 (rgL rfl) h
set_option maxRecDepth 100000 in
theorem w_X11_heaviest_4 {Γ : GE} {q : Int → Prop} {x : XM} (hx : WX x) : ∀ (n : Nat) (v1 : Int) (v2 : Int) , Rg v1 → Rg v2 → M_X11_heaviest_4 q x n v1 v2 → V Γ 3 NF NF D_X11_heaviest (QI Γ x q) 4 [.ref (gB Γ + 83), vI v1, vI v2, uu, uu] [] NF (mk Γ x) := by
  intro n
  induction n with
  | zero =>
    intro v1 v2 r1 r2 h
    rw [M_X11_heaviest_4.eq_1] at h
    exact h.elim
  | succ n ih =>
    intro v1 v2 r1 r2 h
    rw [M_X11_heaviest_4.eq_2] at h
    refine V_iload_2 dX11_heaviest_4 ?_
    refine V_bipush dX11_heaviest_5 (by decide) ?_
    refine V_icmp_ge 70 dX11_heaviest_7 (by decide) r2 (rgL rfl) ⟨fun c1 => ?_, fun c1 => ?_⟩
    · have h := h.1 c1
      refine V_iload_1 dX11_heaviest_70 ?_
      exact V_ireturn dX11_heaviest_71 rfl ⟨rfl, _, rfl, r1, h⟩
    · have h := h.2 c1
      refine V_aload_0 dX11_heaviest_10 ?_
      refine V_iconst dX11_heaviest_11 ?_
      refine V_iload_2 dX11_heaviest_12 ?_
      refine V_iadd dX11_heaviest_13 ?_
      obtain ⟨g2, h⟩ := h
      refine V_cVI1 (My := D_X11_setIn) dX11_heaviest_14 ml_R_183 ce_X11_setIn ly_83 (by decide) cl_11 (by decide) (Nat.le_refl _) (Nat.le_refl _) (by decide) (sumL rfl) (w_X11_setIn hx g2 h) (fun z3 hz3 h => ?_)
      refine V_istore_3 dX11_heaviest_17 rfl rfl ?_
      refine V_iload_3 dX11_heaviest_18 ?_
      refine V_if_eq 50 dX11_heaviest_19 (by decide) hz3 ⟨fun c4 => ?_, fun c4 => ?_⟩
      · have h := h.1 c4
        refine V_fg_3 ?_
        exact w_X11_heaviest_50 hx (ih) _ _ r1 r2 h
      · have h := h.2 c4
        refine V_iload_1 dX11_heaviest_22 ?_
        refine V_iconst dX11_heaviest_23 ?_
        refine V_icmp_eq 46 dX11_heaviest_24 (by decide) r1 (rgL rfl) ⟨fun c8 => ?_, fun c8 => ?_⟩
        · have h := h.1 c8
          refine V_fg_3 ?_
          exact w_X11_heaviest_46 hx (ih) _ _ r1 r2 h
        · have h := h.2 c8
          refine V_aload_0 dX11_heaviest_27 ?_
          refine V_iload_3 dX11_heaviest_28 ?_
          refine V_cVI1 (My := D_X11_holdsOf) dX11_heaviest_29 ml_R_186 ce_X11_holdsOf ly_83 (by decide) cl_11 (by decide) (Nat.le_refl _) (Nat.le_refl _) (by decide) (sumL rfl) (w_X11_holdsOf hx hz3 h) (fun z9 hz9 h => ?_)
          refine V_aload_0 dX11_heaviest_32 ?_
          refine V_aload_0 dX11_heaviest_33 ?_
          refine V_iconst dX11_heaviest_34 ?_
          refine V_iload_1 dX11_heaviest_35 ?_
          refine V_iadd dX11_heaviest_36 ?_
          obtain ⟨g10, h⟩ := h
          refine V_cVI1 (My := D_X11_setIn) dX11_heaviest_37 ml_R_183 ce_X11_setIn ly_83 (by decide) cl_11 (by decide) (Nat.le_refl _) (Nat.le_refl _) (by decide) (sumL rfl) (w_X11_setIn hx g10 h) (fun z11 hz11 h => ?_)
          refine V_cVI1 (My := D_X11_holdsOf) dX11_heaviest_40 ml_R_186 ce_X11_holdsOf ly_83 (by decide) cl_11 (by decide) (Nat.le_refl _) (Nat.le_refl _) (by decide) (sumL rfl) (w_X11_holdsOf hx hz11 h) (fun z12 hz12 h => ?_)
          refine V_icmp_le 50 dX11_heaviest_43 (by decide) hz9 hz12 ⟨fun c13 => ?_, fun c13 => ?_⟩
          · have h := h.1 c13
            refine V_fg_3 ?_
            exact w_X11_heaviest_50 hx (ih) _ _ r1 r2 h
          · have h := h.2 c13
            refine V_fg_3 ?_
            exact w_X11_heaviest_46 hx (ih) _ _ r1 r2 h
set_option maxRecDepth 100000 in
theorem w_X11_heaviest {Γ : GE} {x : XM} (hx : WX x) {q : Int → Prop} (h : M_X11_heaviest x q) : CV Γ 3 NF NF D_X11_heaviest [.ref (gB Γ + 83)] (mk Γ x) (QI Γ x q) := by
  refine CV.of rfl (cat_all rfl) (Nat.le_of_ble_eq_true rfl) ?_
  show V Γ 3 NF NF D_X11_heaviest (QI Γ x q) 0 [.ref (gB Γ + 83), uu, uu, uu, uu] [] NF (mk Γ x)
  unfold M_X11_heaviest at h
  refine V_iconst dX11_heaviest_0 ?_
  refine V_istore_1 dX11_heaviest_1 rfl rfl ?_
  refine V_iconst dX11_heaviest_2 ?_
  refine V_istore_2 dX11_heaviest_3 rfl rfl ?_
  obtain ⟨m9, h⟩ := h
  exact w_X11_heaviest_4 hx m9 _ _ (rgL rfl) (rgL rfl) h
def M_X11_told (x : XM) (v1 : Int) (q : Int → Prop) : Prop :=
  ((v1 = 0 → q (x 83 2)) ∧ (¬ v1 = 0 → ((v1 = 1 → q (x 83 3)) ∧ (¬ v1 = 1 → ((v1 = 2 → q (x 83 5)) ∧ (¬ v1 = 2 → ((v1 = 3 → q (x 83 7)) ∧ (¬ v1 = 3 → ((v1 = 4 → q (x 83 9)) ∧ (¬ v1 = 4 → ((v1 = 5 → q (x 83 1)) ∧ (¬ v1 = 5 → ((v1 = 6 → M_X11_setIn x 0  (fun z1 => q z1)) ∧ (¬ v1 = 6 → ((v1 = 7 → M_X11_setIn x 7  (fun z2 => q z2)) ∧ (¬ v1 = 7 → ((v1 = 8 → M_X11_those x 0  (fun z3 => q z3)) ∧ (¬ v1 = 8 → ((v1 = 9 → q (x 93 30)) ∧ (¬ v1 = 9 → ((v1 = 10 → M_X11_those x 1  (fun z4 => q z4)) ∧ (¬ v1 = 10 → ((v1 = 11 → M_X11_those x 2  (fun z5 => q z5)) ∧ (¬ v1 = 11 → ((v1 = 12 → M_X11_those x 3  (fun z6 => q z6)) ∧ (¬ v1 = 12 → ((v1 = 13 → M_X11_heaviest x  (fun z7 => q z7)) ∧ (¬ v1 = 13 → ((v1 = 14 → q (x 83 38)) ∧ (¬ v1 = 14 → ((v1 = 15 → q (x 83 27)) ∧ (¬ v1 = 15 → q (-1000000002)))))))))))))))))))))))))))))))))
set_option maxRecDepth 100000 in
theorem w_X11_told {Γ : GE} {x : XM} (hx : WX x) {v1 : Int} {q : Int → Prop} (r1 : Rg v1) (h : M_X11_told x v1 q) : CV Γ 5 NF NF D_X11_told [.ref (gB Γ + 83), vI v1] (mk Γ x) (QI Γ x q) := by
  refine CV.of rfl (cat_all rfl) (Nat.le_of_ble_eq_true rfl) ?_
  show V Γ 5 NF NF D_X11_told (QI Γ x q) 0 [.ref (gB Γ + 83), vI v1] [] NF (mk Γ x)
  unfold M_X11_told at h
  refine V_iload_1 dX11_told_0 ?_
  by_cases eo : v1 < 0 ∨ 15 < v1
  · skip
    have h := h.2 (neo (v := 0) eo (by decide) (by decide))
    have h := h.2 (neo (v := 1) eo (by decide) (by decide))
    have h := h.2 (neo (v := 2) eo (by decide) (by decide))
    have h := h.2 (neo (v := 3) eo (by decide) (by decide))
    have h := h.2 (neo (v := 4) eo (by decide) (by decide))
    have h := h.2 (neo (v := 5) eo (by decide) (by decide))
    have h := h.2 (neo (v := 6) eo (by decide) (by decide))
    have h := h.2 (neo (v := 7) eo (by decide) (by decide))
    have h := h.2 (neo (v := 8) eo (by decide) (by decide))
    have h := h.2 (neo (v := 9) eo (by decide) (by decide))
    have h := h.2 (neo (v := 10) eo (by decide) (by decide))
    have h := h.2 (neo (v := 11) eo (by decide) (by decide))
    have h := h.2 (neo (v := 12) eo (by decide) (by decide))
    have h := h.2 (neo (v := 13) eo (by decide) (by decide))
    have h := h.2 (neo (v := 14) eo (by decide) (by decide))
    have h := h.2 (neo (v := 15) eo (by decide) (by decide))
    refine V_tableOut 170 dX11_told_1 r1 eo (by decide) ?_
    refine V_ldc dX11_told_170 kc_R_77 ?_
    exact V_ireturn dX11_told_172 rfl ⟨rfl, _, rfl, (rgL rfl), h⟩
  · skip
    have b_0 : 0 ≤ v1 := Int.not_lt.mp (fun z => eo (Or.inl z))
    by_cases e_0 : v1 = 0
    · have h := h.1 e_0
      refine V_tableIn (off := 79) 80 dX11_told_1 r1 (fun z => eo (Or.inl z)) (fun z => eo (Or.inr z)) (by rw [e_0]; rfl) (by decide) ?_
      refine V_aload_0 dX11_told_80 ?_
      refine V_gI dX11_told_81 fl_R_142 ly_83 (by decide) wn_83_2 ?_
      exact V_ireturn dX11_told_84 rfl ⟨rfl, _, rfl, (hx _ _), h⟩
    have h := h.2 e_0
    have b_1 : 1 ≤ v1 := lbs b_0 e_0
    by_cases e_1 : v1 = 1
    · have h := h.1 e_1
      refine V_tableIn (off := 84) 85 dX11_told_1 r1 (fun z => eo (Or.inl z)) (fun z => eo (Or.inr z)) (by rw [e_1]; rfl) (by decide) ?_
      refine V_aload_0 dX11_told_85 ?_
      refine V_gI dX11_told_86 fl_R_145 ly_83 (by decide) wn_83_3 ?_
      exact V_ireturn dX11_told_89 rfl ⟨rfl, _, rfl, (hx _ _), h⟩
    have h := h.2 e_1
    have b_2 : 2 ≤ v1 := lbs b_1 e_1
    by_cases e_2 : v1 = 2
    · have h := h.1 e_2
      refine V_tableIn (off := 89) 90 dX11_told_1 r1 (fun z => eo (Or.inl z)) (fun z => eo (Or.inr z)) (by rw [e_2]; rfl) (by decide) ?_
      refine V_aload_0 dX11_told_90 ?_
      refine V_gI dX11_told_91 fl_R_148 ly_83 (by decide) wn_83_5 ?_
      exact V_ireturn dX11_told_94 rfl ⟨rfl, _, rfl, (hx _ _), h⟩
    have h := h.2 e_2
    have b_3 : 3 ≤ v1 := lbs b_2 e_2
    by_cases e_3 : v1 = 3
    · have h := h.1 e_3
      refine V_tableIn (off := 94) 95 dX11_told_1 r1 (fun z => eo (Or.inl z)) (fun z => eo (Or.inr z)) (by rw [e_3]; rfl) (by decide) ?_
      refine V_aload_0 dX11_told_95 ?_
      refine V_gI dX11_told_96 fl_R_151 ly_83 (by decide) wn_83_7 ?_
      exact V_ireturn dX11_told_99 rfl ⟨rfl, _, rfl, (hx _ _), h⟩
    have h := h.2 e_3
    have b_4 : 4 ≤ v1 := lbs b_3 e_3
    by_cases e_4 : v1 = 4
    · have h := h.1 e_4
      refine V_tableIn (off := 99) 100 dX11_told_1 r1 (fun z => eo (Or.inl z)) (fun z => eo (Or.inr z)) (by rw [e_4]; rfl) (by decide) ?_
      refine V_aload_0 dX11_told_100 ?_
      refine V_gI dX11_told_101 fl_R_154 ly_83 (by decide) wn_83_9 ?_
      exact V_ireturn dX11_told_104 rfl ⟨rfl, _, rfl, (hx _ _), h⟩
    have h := h.2 e_4
    have b_5 : 5 ≤ v1 := lbs b_4 e_4
    by_cases e_5 : v1 = 5
    · have h := h.1 e_5
      refine V_tableIn (off := 104) 105 dX11_told_1 r1 (fun z => eo (Or.inl z)) (fun z => eo (Or.inr z)) (by rw [e_5]; rfl) (by decide) ?_
      refine V_aload_0 dX11_told_105 ?_
      refine V_gI dX11_told_106 fl_R_78 ly_83 (by decide) wn_83_1 ?_
      exact V_ireturn dX11_told_109 rfl ⟨rfl, _, rfl, (hx _ _), h⟩
    have h := h.2 e_5
    have b_6 : 6 ≤ v1 := lbs b_5 e_5
    by_cases e_6 : v1 = 6
    · have h := h.1 e_6
      refine V_tableIn (off := 109) 110 dX11_told_1 r1 (fun z => eo (Or.inl z)) (fun z => eo (Or.inr z)) (by rw [e_6]; rfl) (by decide) ?_
      refine V_aload_0 dX11_told_110 ?_
      refine V_iconst dX11_told_111 ?_
      refine V_cVI1 (My := D_X11_setIn) dX11_told_112 ml_R_183 ce_X11_setIn ly_83 (by decide) cl_11 (by decide) (Nat.le_refl _) (Nat.le_refl _) (by decide) (sumL rfl) (w_X11_setIn hx (rgL rfl) h) (fun z1 hz1 h => ?_)
      exact V_ireturn dX11_told_115 rfl ⟨rfl, _, rfl, hz1, h⟩
    have h := h.2 e_6
    have b_7 : 7 ≤ v1 := lbs b_6 e_6
    by_cases e_7 : v1 = 7
    · have h := h.1 e_7
      refine V_tableIn (off := 115) 116 dX11_told_1 r1 (fun z => eo (Or.inl z)) (fun z => eo (Or.inr z)) (by rw [e_7]; rfl) (by decide) ?_
      refine V_aload_0 dX11_told_116 ?_
      refine V_bipush dX11_told_117 (by decide) ?_
      refine V_cVI1 (My := D_X11_setIn) dX11_told_119 ml_R_183 ce_X11_setIn ly_83 (by decide) cl_11 (by decide) (Nat.le_refl _) (Nat.le_refl _) (by decide) (sumL rfl) (w_X11_setIn hx (rgL rfl) h) (fun z2 hz2 h => ?_)
      exact V_ireturn dX11_told_122 rfl ⟨rfl, _, rfl, hz2, h⟩
    have h := h.2 e_7
    have b_8 : 8 ≤ v1 := lbs b_7 e_7
    by_cases e_8 : v1 = 8
    · have h := h.1 e_8
      refine V_tableIn (off := 122) 123 dX11_told_1 r1 (fun z => eo (Or.inl z)) (fun z => eo (Or.inr z)) (by rw [e_8]; rfl) (by decide) ?_
      refine V_aload_0 dX11_told_123 ?_
      refine V_iconst dX11_told_124 ?_
      refine V_cVI1 (My := D_X11_those) dX11_told_125 ml_R_195 ce_X11_those ly_83 (by decide) cl_11 (by decide) (Nat.le_refl _) (Nat.le_refl _) (by decide) (sumL rfl) (w_X11_those hx (rgL rfl) h) (fun z3 hz3 h => ?_)
      exact V_ireturn dX11_told_128 rfl ⟨rfl, _, rfl, hz3, h⟩
    have h := h.2 e_8
    have b_9 : 9 ≤ v1 := lbs b_8 e_8
    by_cases e_9 : v1 = 9
    · have h := h.1 e_9
      refine V_tableIn (off := 128) 129 dX11_told_1 r1 (fun z => eo (Or.inl z)) (fun z => eo (Or.inr z)) (by rw [e_9]; rfl) (by decide) ?_
      refine V_aload_0 dX11_told_129 ?_
      refine V_gR dX11_told_130 fl_R_38 ly_83 (by decide) wr_83_25 ?_
      refine V_bipush dX11_told_133 (by decide) ?_
      refine V_aI dX11_told_135 ly_93 (by decide) (by decide) (ibd rfl) ?_
      exact V_ireturn dX11_told_136 rfl ⟨rfl, _, rfl, (hx _ _), h⟩
    have h := h.2 e_9
    have b_10 : 10 ≤ v1 := lbs b_9 e_9
    by_cases e_10 : v1 = 10
    · have h := h.1 e_10
      refine V_tableIn (off := 136) 137 dX11_told_1 r1 (fun z => eo (Or.inl z)) (fun z => eo (Or.inr z)) (by rw [e_10]; rfl) (by decide) ?_
      refine V_aload_0 dX11_told_137 ?_
      refine V_iconst dX11_told_138 ?_
      refine V_cVI1 (My := D_X11_those) dX11_told_139 ml_R_195 ce_X11_those ly_83 (by decide) cl_11 (by decide) (Nat.le_refl _) (Nat.le_refl _) (by decide) (sumL rfl) (w_X11_those hx (rgL rfl) h) (fun z4 hz4 h => ?_)
      exact V_ireturn dX11_told_142 rfl ⟨rfl, _, rfl, hz4, h⟩
    have h := h.2 e_10
    have b_11 : 11 ≤ v1 := lbs b_10 e_10
    by_cases e_11 : v1 = 11
    · have h := h.1 e_11
      refine V_tableIn (off := 142) 143 dX11_told_1 r1 (fun z => eo (Or.inl z)) (fun z => eo (Or.inr z)) (by rw [e_11]; rfl) (by decide) ?_
      refine V_aload_0 dX11_told_143 ?_
      refine V_iconst dX11_told_144 ?_
      refine V_cVI1 (My := D_X11_those) dX11_told_145 ml_R_195 ce_X11_those ly_83 (by decide) cl_11 (by decide) (Nat.le_refl _) (Nat.le_refl _) (by decide) (sumL rfl) (w_X11_those hx (rgL rfl) h) (fun z5 hz5 h => ?_)
      exact V_ireturn dX11_told_148 rfl ⟨rfl, _, rfl, hz5, h⟩
    have h := h.2 e_11
    have b_12 : 12 ≤ v1 := lbs b_11 e_11
    by_cases e_12 : v1 = 12
    · have h := h.1 e_12
      refine V_tableIn (off := 148) 149 dX11_told_1 r1 (fun z => eo (Or.inl z)) (fun z => eo (Or.inr z)) (by rw [e_12]; rfl) (by decide) ?_
      refine V_aload_0 dX11_told_149 ?_
      refine V_iconst dX11_told_150 ?_
      refine V_cVI1 (My := D_X11_those) dX11_told_151 ml_R_195 ce_X11_those ly_83 (by decide) cl_11 (by decide) (Nat.le_refl _) (Nat.le_refl _) (by decide) (sumL rfl) (w_X11_those hx (rgL rfl) h) (fun z6 hz6 h => ?_)
      exact V_ireturn dX11_told_154 rfl ⟨rfl, _, rfl, hz6, h⟩
    have h := h.2 e_12
    have b_13 : 13 ≤ v1 := lbs b_12 e_12
    by_cases e_13 : v1 = 13
    · have h := h.1 e_13
      refine V_tableIn (off := 154) 155 dX11_told_1 r1 (fun z => eo (Or.inl z)) (fun z => eo (Or.inr z)) (by rw [e_13]; rfl) (by decide) ?_
      refine V_aload_0 dX11_told_155 ?_
      refine V_cVI0 (My := D_X11_heaviest) dX11_told_156 ml_R_198 ce_X11_heaviest ly_83 (by decide) cl_11 (by decide) (Nat.le_refl _) (Nat.le_refl _) (by decide) (sumL rfl) (w_X11_heaviest hx h) (fun z7 hz7 h => ?_)
      exact V_ireturn dX11_told_159 rfl ⟨rfl, _, rfl, hz7, h⟩
    have h := h.2 e_13
    have b_14 : 14 ≤ v1 := lbs b_13 e_13
    by_cases e_14 : v1 = 14
    · have h := h.1 e_14
      refine V_tableIn (off := 159) 160 dX11_told_1 r1 (fun z => eo (Or.inl z)) (fun z => eo (Or.inr z)) (by rw [e_14]; rfl) (by decide) ?_
      refine V_aload_0 dX11_told_160 ?_
      refine V_gI dX11_told_161 fl_R_160 ly_83 (by decide) wn_83_38 ?_
      exact V_ireturn dX11_told_164 rfl ⟨rfl, _, rfl, (hx _ _), h⟩
    have h := h.2 e_14
    have b_15 : 15 ≤ v1 := lbs b_14 e_14
    by_cases e_15 : v1 = 15
    · have h := h.1 e_15
      refine V_tableIn (off := 164) 165 dX11_told_1 r1 (fun z => eo (Or.inl z)) (fun z => eo (Or.inr z)) (by rw [e_15]; rfl) (by decide) ?_
      refine V_aload_0 dX11_told_165 ?_
      refine V_gI dX11_told_166 fl_R_157 ly_83 (by decide) wn_83_27 ?_
      exact V_ireturn dX11_told_169 rfl ⟨rfl, _, rfl, (hx _ _), h⟩
    have h := h.2 e_15
    have b_16 : 16 ≤ v1 := lbs b_15 e_15
    exact absurd b_16 (fun z => eo (Or.inr (Int.lt_of_lt_of_le (by decide) z)))
