def dfl_0 : Nat → Value := fun j => ([.null, .null] : List Value).getD j .null
def dfl_1 : Nat → Value := fun j => ([.null, .null, vI 0] : List Value).getD j .null
def dfl_2 : Nat → Value := fun j => ([.null, .null, vI 0, vI 0] : List Value).getD j .null
def dfl_3 : Nat → Value := fun j => ([vI 0] : List Value).getD j .null
def dfl_4 : Nat → Value := fun j => ([.null, .null, .null, vI 0] : List Value).getD j .null
def dfl_5 : Nat → Value := fun j => ([.null, vI 0, vI 0] : List Value).getD j .null
def dfl_6 : Nat → Value := fun j => ([.null, .null, .null, .null] : List Value).getD j .null
def dfl_7 : Nat → Value := fun j => ([.null, vI 0, vI 0] : List Value).getD j .null
def dfl_8 : Nat → Value := fun j => ([.null, vI 0, vI 0] : List Value).getD j .null
def dfl_9 : Nat → Value := fun j => ([.null, .null] : List Value).getD j .null
def dfl_10 : Nat → Value := fun j => ([.null, .null, .null, .null, .null, .null, .null, .null, .null, vI 0] : List Value).getD j .null
def dfl_11 : Nat → Value := fun j => ([.null, vI 0, vI 0, vI 0, .null, vI 0, .null, vI 0, .null, vI 0, .null, vI 0, vI 0, .null, vI 0, .null, vI 0, .null, vI 0, .null, vI 0, vI 0, vI 0, vI 0, vI 0, .null, .null, vI 0, .null, .null, .null, vI 0, .null, vI 0, .null, .null, .null, .null, vI 0] : List Value).getD j .null
theorem cn_L_7 : CN "ButtonTinLaw" 7 10 10 dfl_10 := ⟨RX10, TX10, tyX10, rfl, by decide, ug_10, tyX10_ok, kk_L_7, ki_10, kn_10, by decide⟩
theorem cn_T_7 : CN "ButtonTin" 7 8 3 dfl_8 := ⟨RX8, TX8, tyX8, rfl, by decide, ug_8, tyX8_ok, kk_T_7, ki_8, kn_8, by decide⟩
theorem cn_T_16 : CN "ButtonTin" 16 0 2 dfl_0 := ⟨RX0, TX0, tyX0, rfl, by decide, ug_0, tyX0_ok, kk_T_16, ki_0, kn_0, by decide⟩
theorem cn_Bench_9 : CN "ButtonTin$Bench" 9 2 4 dfl_2 := ⟨RX2, TX2, tyX2, rfl, by decide, ug_2, tyX2_ok, kk_Bench_9, ki_2, kn_2, by decide⟩
theorem cn_Bench_18 : CN "ButtonTin$Bench" 18 9 2 dfl_9 := ⟨RX9, TX9, tyX9, rfl, by decide, ug_9, tyX9_ok, kk_Bench_18, ki_9, kn_9, by decide⟩
theorem cn_T_23 : CN "ButtonTin" 23 7 3 dfl_7 := ⟨RX7, TX7, tyX7, rfl, by decide, ug_7, tyX7_ok, kk_T_23, ki_7, kn_7, by decide⟩
theorem cn_Past_9 : CN "ButtonTin$Past" 9 2 4 dfl_2 := ⟨RX2, TX2, tyX2, rfl, by decide, ug_2, tyX2_ok, kk_Past_9, ki_2, kn_2, by decide⟩
theorem cn_T_30 : CN "ButtonTin" 30 1 3 dfl_1 := ⟨RX1, TX1, tyX1, rfl, by decide, ug_1, tyX1_ok, kk_T_30, ki_1, kn_1, by decide⟩
theorem cn_T_37 : CN "ButtonTin" 37 3 1 dfl_3 := ⟨RX3, TX3, tyX3, rfl, by decide, ug_3, tyX3_ok, kk_T_37, ki_3, kn_3, by decide⟩
theorem cn_T_44 : CN "ButtonTin" 44 5 3 dfl_5 := ⟨RX5, TX5, tyX5, rfl, by decide, ug_5, tyX5_ok, kk_T_44, ki_5, kn_5, by decide⟩
theorem cn_T_50 : CN "ButtonTin" 50 4 4 dfl_4 := ⟨RX4, TX4, tyX4, rfl, by decide, ug_4, tyX4_ok, kk_T_50, ki_4, kn_4, by decide⟩
theorem cn_T_59 : CN "ButtonTin" 59 6 4 dfl_6 := ⟨RX6, TX6, tyX6, rfl, by decide, ug_6, tyX6_ok, kk_T_59, ki_6, kn_6, by decide⟩
theorem cn_T_66 : CN "ButtonTin" 66 9 2 dfl_9 := ⟨RX9, TX9, tyX9, rfl, by decide, ug_9, tyX9_ok, kk_T_66, ki_9, kn_9, by decide⟩
theorem cn_Image_7 : CN "ButtonTin$Image" 7 2 4 dfl_2 := ⟨RX2, TX2, tyX2, rfl, by decide, ug_2, tyX2_ok, kk_Image_7, ki_2, kn_2, by decide⟩
theorem cn_L_10 : CN "ButtonTinLaw" 10 11 39 dfl_11 := ⟨RX11, TX11, tyX11, rfl, by decide, ug_11, tyX11_ok, kk_L_10, ki_11, kn_11, by decide⟩
def x0 : XM := fun k j => if k = 0 ∧ j = 9 then -1 else if k = 83 ∧ j = 21 then -1 else if k = 0 ∧ j = 8 then 1 else 0
theorem x0_z {k j : Nat} (h0 : k ≠ 0) (h1 : k ≠ 83) : x0 k j = 0 := by
  unfold x0
  rw [if_neg (fun q => h0 q.1), if_neg (fun q => h1 q.1), if_neg (fun q => h0 q.1)]
theorem WX_x0 : WX x0 := by
  intro k j
  unfold x0
  split
  · exact rgL rfl
  · split
    · exact rgL rfl
    · split
      · exact rgL rfl
      · exact rgL rfl
/-- cells n1 .. n2 are as they shall be in the end -/
def Dn (Γ : GE) (G : HP) (n1 n2 : Nat) : Prop := ∀ a, n1 ≤ a → a < n2 → ∀ j, j < (lay a).2 → G a j = mk Γ x0 a j
def QC (Γ : GE) (G : HP) (k nE : Nat) : Option Value → HP → Prop := fun v G' => v = none ∧ (∀ a, a < k → G' a = G a) ∧ Dn Γ G' k nE
theorem Dn.app {Γ : GE} {G : HP} {a b c : Nat} (h1 : Dn Γ G a b) (h2 : Dn Γ G b c) : Dn Γ G a c := fun k g1 g2 j hj => by
  rcases Nat.lt_or_ge k b with q | q
  · exact h1 k g1 q j hj
  · exact h2 k q g2 j hj
theorem Dn.one {Γ : GE} {G : HP} {a : Nat} (h : ∀ j, j < (lay a).2 → G a j = mk Γ x0 a j) : Dn Γ G a (a + 1) := fun k g1 g2 j hj => by
  have : k = a := by omega
  subst this
  exact h j hj
theorem Dn.arr {Γ : GE} {G : HP} {a N c : Nat} (hl : lay a = (c, N)) (hc : c = 20 ∨ c = 21 ∨ c = 22) (h0 : a ≠ 0) (h83 : a ≠ 83) (h : G a = fun _ => vI 0) : Dn Γ G a (a + 1) := Dn.one (fun j _ => by
  rw [h, mk_none (arr_w hl hc), x0_z h0 h83])
theorem Dn.to {Γ : GE} {G G2 : HP} {a b : Nat} (h : Dn Γ G a b) (e : ∀ k, a ≤ k → k < b → G2 k = G k) : Dn Γ G2 a b := fun k g1 g2 j hj => by
  rw [e k g1 g2]
  exact h k g1 g2 j hj
theorem Rl_ext {Γ : GE} {n : Nat} {G G2 : HP} {H : Heap} (h : Rl Γ n G H) (e : ∀ k, k < n → ∀ j, j < (lay k).2 → G k j = G2 k j) : Rl Γ n G2 H := by
  intro k q hq
  have hk : k < n := by
    have := (List.getElem?_eq_some_iff.mp hq).1
    rw [wsG_len] at this; exact this
  rw [wsG_at hk] at hq
  cases hq
  have h1 := h k _ (wsG_at hk)
  have ek := e k hk
  generalize lay k = L at h1 ek ⊢
  obtain ⟨c, N⟩ := L
  dsimp only at ek
  have key : ∀ (cA : ClassId) (f g : Nat → Value), (∀ j, j < N → f j = g j) → arrV cA N f = arrV cA N g := by
    intro cA f g hfg
    unfold arrV
    congr 1
    apply Array.ext
    · simp
    · intro i g1 g2
      simp only [Array.getElem_ofFn]
      exact hfg i (by simpa using g1)
  unfold ent at h1 ⊢
  dsimp only at h1 ⊢
  by_cases hc : c < 20
  · rw [if_pos hc] at h1 ⊢
    have e1 : (List.range N).map (G2 k) = (List.range N).map (G k) := List.map_congr_left (fun j hj => (ek j (List.mem_range.mp hj)).symm)
    rw [e1]
    exact h1
  · rw [if_neg hc] at h1 ⊢
    by_cases hc2 : c < 23
    · rw [if_pos hc2] at h1 ⊢
      have h2 : H[gB Γ + k]? = some (arrV (gC Γ (c - 20)) N (fun j => .int (i32 (G k j)))) := h1
      show H[gB Γ + k]? = some (arrV (gC Γ (c - 20)) N (fun j => .int (i32 (G2 k j))))
      rw [h2]
      exact congrArg some (key _ _ _ (fun j hj => by rw [ek j hj]))
    · rw [if_neg hc2] at h1 ⊢
      have h2 : H[gB Γ + k]? = some (arrV (gC Γ (c - 20)) N (fun j => va_rf (rfo (G k j)))) := h1
      show H[gB Γ + k]? = some (arrV (gC Γ (c - 20)) N (fun j => va_rf (rfo (G2 k j))))
      rw [h2]
      exact congrArg some (key _ _ _ (fun j hj => by rw [ek j hj]))
theorem V_getfE {Γ : GE} {d n0 nE : Nat} {M : MD} {Q : Option Value → HP → Prop} {pc : Nat} {ls st : List Value} {n : Nat} {G : HP} {idx ci N j k : Nat} {ty : FieldType} {fin : Bool} {v : Value} (hd : decode M.2.1 pc = .ok (.getfield idx, 3)) (hf : FL M.1.cls idx ci N j ty fin) (hlay : lay k = (ci, N)) (hk : k < n) (hv : G k j = v) (K : V Γ d n0 nE M Q (pc + 3) ls (v :: st) n G) : V Γ d n0 nE M Q pc ls (.ref (gB Γ + k) :: st) n G := by
  refine V_getf hd hf hlay hk ?_
  rw [hv]
  exact K
theorem ring_w {x : XM} {j : Nat} : wire x 11 j = some (12 + 3 * j) := rfl
theorem imgs_w {x : XM} {j : Nat} : wire x 64 j = some (75 + 4 * j) := rfl
set_option maxRecDepth 100000 in
theorem c_Cloth {Γ : GE} {k : Nat} (e0 : lay k = (2, 4)) (e1 : lay (k + 1) = (20, 12)) (e2 : lay (k + 2) = (20, 6)) {G : HP} (hG : G k = dfl_2) : CV Γ 1 (k + 1) (k + 3) D_X2_init [.ref (gB Γ + k)] G (QC Γ G k (k + 3)) := by
  refine CV.of rfl (cat_all rfl) (Nat.le_of_ble_eq_true rfl) ?_
  show V Γ 1 (k + 1) (k + 3) D_X2_init (QC Γ G k (k + 3)) 0 [.ref (gB Γ + k)] [] (k + 1) G
  refine V_aload_0 dX2_init_0 ?_
  refine V_objInit dX2_init_1 ml_Cloth_3 oi_1 oi_2 (by decide) (sumL rfl) ?_
  refine V_aload_0 dX2_init_4 ?_
  refine V_bipush dX2_init_5 (by decide) ?_
  refine V_newaI (N := 12) dX2_init_7 aw_int e1 (by decide) (by omega) (by omega) ?_
  refine V_putF dX2_init_9 fl_Cloth_9 e0 (by omega) rfl rfl rfl rfl ?_
  refine V_aload_0 dX2_init_12 ?_
  refine V_bipush dX2_init_13 (by decide) ?_
  refine V_newaI (N := 6) dX2_init_15 aw_int e2 (by decide) (by omega) (by omega) ?_
  refine V_putF dX2_init_17 fl_Cloth_15 e0 (by omega) rfl rfl rfl rfl ?_
  refine V_vreturn dX2_init_20 rfl ?_
  have hk0 : k ≠ 0 := by rintro rfl; cases e0
  have hk3 : k ≠ 83 := by rintro rfl; cases e0
  have hk1 : k + 1 ≠ 83 := by intro q; rw [q] at e1; cases e1
  have hk2 : k + 2 ≠ 83 := by intro q; rw [q] at e2; cases e2
  have h : (lay k).1 = 2 := by rw [e0]
  refine ⟨rfl, fun a ha => ?_, ?_⟩
  · simp (disch := omega) only [uH_ne, nH_ne]
  · refine Dn.app (b := k + 1) (Dn.one (fun j hj => ?_)) (Dn.app (b := k + 2) (Dn.arr e1 (by decide) (by omega) hk1 ?_) (Dn.arr e2 (by decide) (by omega) hk2 ?_))
    · rw [e0] at hj
      have hj : j < 4 := hj
      rcases (show j = 0 ∨ j = 1 ∨ j = 2 ∨ j = 3 by omega) with rfl | rfl | rfl | rfl
      · rw [mk_some (clo_w0 h)]
        simp (disch := omega) [uH_kb, uH_ne, nH_ne, nH_k, hG, dfl_2, x0_z hk0 hk3]
      · rw [mk_some (clo_w1 h)]
        simp (disch := omega) [uH_kb, uH_ne, nH_ne, nH_k, hG, dfl_2, x0_z hk0 hk3]
      · rw [mk_none (clo_w2 h)]
        simp (disch := omega) [uH_kb, uH_ne, nH_ne, nH_k, hG, dfl_2, x0_z hk0 hk3]
      · rw [mk_none (clo_w3 h)]
        simp (disch := omega) [uH_kb, uH_ne, nH_ne, nH_k, hG, dfl_2, x0_z hk0 hk3]
    · simp (disch := omega) only [uH_ne, nH_ne, nH_k]
    · simp (disch := omega) only [uH_ne, nH_ne, nH_k]
theorem tel_w0 {x : XM} {k : Nat} (h : (lay k).1 = 9) : wire x k 0 = some (k + 1) := by unfold wire; rw [h]; rfl
theorem tel_w1 {x : XM} {k : Nat} (h : (lay k).1 = 9) : wire x k 1 = some (k + 2) := by unfold wire; rw [h]; rfl
set_option maxRecDepth 100000 in
theorem c_Telling {Γ : GE} {k : Nat} (e0 : lay k = (9, 2)) (e1 : lay (k + 1) = (20, 5)) (e2 : lay (k + 2) = (20, 116)) {G : HP} (hG : G k = dfl_9) : CV Γ 1 (k + 1) (k + 3) D_X9_init [.ref (gB Γ + k)] G (QC Γ G k (k + 3)) := by
  refine CV.of rfl (cat_all rfl) (Nat.le_of_ble_eq_true rfl) ?_
  show V Γ 1 (k + 1) (k + 3) D_X9_init (QC Γ G k (k + 3)) 0 [.ref (gB Γ + k)] [] (k + 1) G
  refine V_aload_0 dX9_init_0 ?_
  refine V_objInit dX9_init_1 ml_Telling_3 oi_1 oi_2 (by decide) (sumL rfl) ?_
  refine V_aload_0 dX9_init_4 ?_
  refine V_iconst dX9_init_5 ?_
  refine V_newaI (N := 5) dX9_init_6 aw_int e1 (by decide) (by omega) (by omega) ?_
  refine V_putF dX9_init_8 fl_Telling_9 e0 (by omega) rfl rfl rfl rfl ?_
  refine V_aload_0 dX9_init_11 ?_
  refine V_bipush dX9_init_12 (by decide) ?_
  refine V_newaI (N := 116) dX9_init_14 aw_int e2 (by decide) (by omega) (by omega) ?_
  refine V_putF dX9_init_16 fl_Telling_15 e0 (by omega) rfl rfl rfl rfl ?_
  refine V_vreturn dX9_init_19 rfl ?_
  have hk0 : k ≠ 0 := by rintro rfl; cases e0
  have hk3 : k ≠ 83 := by rintro rfl; cases e0
  have hk1 : k + 1 ≠ 83 := by intro q; rw [q] at e1; cases e1
  have hk2 : k + 2 ≠ 83 := by intro q; rw [q] at e2; cases e2
  have h : (lay k).1 = 9 := by rw [e0]
  refine ⟨rfl, fun a ha => ?_, ?_⟩
  · simp (disch := omega) only [uH_ne, nH_ne]
  · refine Dn.app (b := k + 1) (Dn.one (fun j hj => ?_)) (Dn.app (b := k + 2) (Dn.arr e1 (by decide) (by omega) hk1 ?_) (Dn.arr e2 (by decide) (by omega) hk2 ?_))
    · rw [e0] at hj
      have hj : j < 2 := hj
      rcases (show j = 0 ∨ j = 1 by omega) with rfl | rfl
      · rw [mk_some (tel_w0 h)]
        simp (disch := omega) [uH_kb, uH_ne, nH_ne, nH_k, hG, dfl_9, x0_z hk0 hk3]
      · rw [mk_some (tel_w1 h)]
        simp (disch := omega) [uH_kb, uH_ne, nH_ne, nH_k, hG, dfl_9, x0_z hk0 hk3]
    · simp (disch := omega) only [uH_ne, nH_ne, nH_k]
    · simp (disch := omega) only [uH_ne, nH_ne, nH_k]
set_option maxRecDepth 100000 in
set_option maxHeartbeats 4000000 in
theorem c_Reader {Γ : GE} {G : HP} (hG : G 1 = dfl_8) : CV Γ 1 2 3 D_X8_init [.ref (gB Γ + 1)] G (QC Γ G 1 3) := by
  refine CV.of rfl (cat_all rfl) (Nat.le_of_ble_eq_true rfl) ?_
  show V Γ 1 2 3 D_X8_init (QC Γ G 1 3) 0 [.ref (gB Γ + 1)] [] 2 G
  refine V_aload_0 dX8_init_0 ?_
  refine V_objInit dX8_init_1 ml_Reader_3 oi_1 oi_2 (by decide) (sumL rfl) ?_
  refine V_aload_0 dX8_init_4 ?_
  refine V_sipush dX8_init_5 (by decide) ?_
  refine V_newaI (N := 240) dX8_init_8 aw_int ly_2 (by decide) (by decide) (by decide) ?_
  refine V_putF dX8_init_10 fl_Reader_9 ly_1 (by decide) rfl rfl rfl rfl ?_
  refine V_vreturn dX8_init_13 rfl ?_
  refine ⟨rfl, fun a ha => ?_, ?_⟩
  · simp (disch := omega) only [uH_ne, nH_ne]
  · refine Dn.app (b := 2) ?_ ?_
    · refine Dn.one (fun j hj => ?_)
      have hj : j < 3 := hj
      rcases (show j = 0 ∨ j = 1 ∨ j = 2 by omega) with rfl | rfl | rfl
      · rw [mk_some wr_1_0]
        simp (disch := omega) [uH_kb, uH_ne, nH_ne, nH_k, hG, dfl_0, dfl_1, dfl_2, dfl_3, dfl_4, dfl_5, dfl_6, dfl_7, dfl_8, dfl_9, dfl_10, dfl_11, x0, tid]
      · rw [mk_none wn_1_1]
        simp (disch := omega) [uH_kb, uH_ne, nH_ne, nH_k, hG, dfl_0, dfl_1, dfl_2, dfl_3, dfl_4, dfl_5, dfl_6, dfl_7, dfl_8, dfl_9, dfl_10, dfl_11, x0, tid]
      · rw [mk_none wn_1_2]
        simp (disch := omega) [uH_kb, uH_ne, nH_ne, nH_k, hG, dfl_0, dfl_1, dfl_2, dfl_3, dfl_4, dfl_5, dfl_6, dfl_7, dfl_8, dfl_9, dfl_10, dfl_11, x0, tid]
    · exact Dn.arr ly_2 (by decide) (by decide) (by decide) (by simp (disch := omega) only [uH_ne, nH_ne, nH_k])
set_option maxRecDepth 100000 in
set_option maxHeartbeats 4000000 in
theorem c_Bench {Γ : GE} {G : HP} (hG : G 3 = dfl_0) : CV Γ 2 4 10 D_X0_init [.ref (gB Γ + 3)] G (QC Γ G 3 10) := by
  refine CV.of rfl (cat_all rfl) (Nat.le_of_ble_eq_true rfl) ?_
  show V Γ 2 4 10 D_X0_init (QC Γ G 3 10) 0 [.ref (gB Γ + 3)] [] 4 G
  refine V_aload_0 dX0_init_0 ?_
  refine V_objInit dX0_init_1 ml_Bench_3 oi_1 oi_2 (by decide) (sumL rfl) ?_
  refine V_aload_0 dX0_init_4 ?_
  refine V_new dX0_init_5 cn_Bench_9 ly_4 (by decide) (by decide) ?_
  refine V_dup dX0_init_8 rfl ?_
  refine V_callIN (nC := 7) (As := []) (My := D_X2_init) dX0_init_9 (by decide) ce_X2_init rfl (by decide) (by decide) (by decide) (by decide) (sumL rfl) (c_Cloth ly_4 ly_5 ly_6 nH_k) (fun v G1 hG1 => ?_)
  obtain ⟨rfl, hu1, hd1⟩ := hG1
  refine V_putF dX0_init_12 fl_Bench_12 ly_3 (by decide) rfl rfl rfl rfl ?_
  refine V_aload_0 dX0_init_15 ?_
  refine V_new dX0_init_16 cn_Bench_18 ly_7 (by decide) (by decide) ?_
  refine V_dup dX0_init_19 rfl ?_
  refine V_callIN (nC := 10) (As := []) (My := D_X9_init) dX0_init_20 (by decide) ce_X9_init rfl (by decide) (by decide) (by decide) (by decide) (sumL rfl) (c_Telling ly_7 ly_8 ly_9 nH_k) (fun v G2 hG2 => ?_)
  obtain ⟨rfl, hu2, hd2⟩ := hG2
  refine V_putf dX0_init_23 fl_Bench_21 ly_3 (by decide) rfl rfl ?_
  refine V_vreturn dX0_init_26 rfl ?_
  refine ⟨rfl, fun a ha => ?_, ?_⟩
  · simp (disch := omega) only [uH_ne, nH_ne, hu1, hu2]
  · refine Dn.app (b := 4) ?_ ?_
    · refine Dn.one (fun j hj => ?_)
      have hj : j < 2 := hj
      rcases (show j = 0 ∨ j = 1 by omega) with rfl | rfl
      · rw [mk_some wr_3_0]
        simp (disch := omega) [uH_kb, uH_ne, nH_ne, nH_k, hG, hu1, hu2, dfl_0, dfl_1, dfl_2, dfl_3, dfl_4, dfl_5, dfl_6, dfl_7, dfl_8, dfl_9, dfl_10, dfl_11, x0, tid]
      · rw [mk_some wr_3_1]
        simp (disch := omega) [uH_kb, uH_ne, nH_ne, nH_k, hG, hu1, hu2, dfl_0, dfl_1, dfl_2, dfl_3, dfl_4, dfl_5, dfl_6, dfl_7, dfl_8, dfl_9, dfl_10, dfl_11, x0, tid]
    · refine Dn.app (b := 7) ?_ ?_
      · exact Dn.to hd1 (fun a g1 g2 => by simp (disch := omega) only [uH_ne, nH_ne, hu1, hu2])
      · exact Dn.to hd2 (fun a g1 g2 => by simp (disch := omega) only [uH_ne, nH_ne, hu1, hu2])
theorem ring_l : ∀ i, i < 16 → lay (12 + 3 * i) = (2, 4) ∧ lay (12 + 3 * i + 1) = (20, 12) ∧ lay (12 + 3 * i + 2) = (20, 6) := by decide +kernel
set_option maxRecDepth 100000 in
set_option maxHeartbeats 4000000 in
theorem past_loop {Γ : GE} {G0 : HP} : ∀ (m i : Nat) (G : HP), i + m = 16 → (∀ a, a < 10 → G a = G0 a) → G 10 0 = .ref (gB Γ + 11) → G 10 1 = vI 0 → G 10 2 = vI 0 → (∀ j, j < i → G 11 j = .ref (gB Γ + (12 + 3 * j))) → Dn Γ G 12 (12 + 3 * i) → V Γ 2 11 60 D_X7_init (QC Γ G0 10 60) 15 [.ref (gB Γ + 10), vI (i : Int)] [] (12 + 3 * i) G := by
  intro m
  induction m with
  | zero =>
    intro i G hi hu h0 h1 h2 h3 h4
    have : i = 16 := by omega
    subst this
    refine V_iload_1 dX7_init_15 ?_
    refine V_bipush dX7_init_16 (by decide) ?_
    refine V_icmp_ge 40 dX7_init_18 (by decide) (rgL rfl) (rgL rfl) ⟨fun c => ?_, fun c => absurd c (by decide)⟩
    refine V_vreturn (nE := 60) dX7_init_40 rfl ?_
    refine ⟨rfl, hu, ?_⟩
    refine Dn.app (b := 11) (Dn.one (fun j hj => ?_)) (Dn.app (b := 12) (Dn.one (fun j hj => ?_)) h4)
    · have hj : j < 3 := hj
      rcases (show j = 0 ∨ j = 1 ∨ j = 2 by omega) with rfl | rfl | rfl
      · rw [h0, mk_some wr_10_0]
      · rw [h1, mk_none wn_10_1]; rfl
      · rw [h2, mk_none wn_10_2]; rfl
    · have hj : j < 16 := hj
      rw [h3 j hj, mk_some ring_w]
  | succ m ih =>
    intro i G hi hu h0 h1 h2 h3 h4
    obtain ⟨l0, l1, l2⟩ := ring_l i (by omega)
    have hr : Rg (i : Int) := ⟨by omega, by omega⟩
    refine V_iload_1 dX7_init_15 ?_
    refine V_bipush dX7_init_16 (by decide) ?_
    refine V_icmp_ge 40 dX7_init_18 (by decide) hr (rgL rfl) ⟨fun c => absurd c (by omega), fun c => ?_⟩
    refine V_aload_0 dX7_init_21 ?_
    refine V_getfE (v := .ref (gB Γ + 11)) dX7_init_22 fl_Past_11 ly_10 (by omega) h0 ?_
    refine V_iload_1 dX7_init_25 ?_
    refine V_new dX7_init_26 cn_Past_9 l0 (by omega) (by omega) ?_
    refine V_dup dX7_init_29 rfl ?_
    refine V_callIN (nC := 12 + 3 * i + 3) (As := []) (My := D_X2_init) dX7_init_30 (by decide) ce_X2_init rfl (by omega) (by omega) (by omega) (by decide) (sumL rfl) (c_Cloth l0 l1 l2 nH_k) (fun v G1 hG1 => ?_)
    obtain ⟨rfl, hu1, hd1⟩ := hG1
    refine V_aast3 (k := 11) (kv := 12 + 3 * i) dX7_init_33 ly_11 (by omega) (by decide) (by omega) (by omega) l0 (by omega) ?_
    refine V_iinc_1 (a1 := uu) dX7_init_34 rfl ?_
    refine V_goto 15 dX7_init_37 (by decide) ?_
    have e1 : (i : Int) + 1 = ((i + 1 : Nat) : Int) := by omega
    have e2 : 12 + 3 * i + 3 = 12 + 3 * (i + 1) := by omega
    have e3 : ((i : Int)).toNat = i := by omega
    rw [e1, e2, e3]
    have hb : ∀ a, a < 12 + 3 * i → G1 a = G a := fun a ha => by rw [hu1 a ha, nH_ne (by omega)]
    refine ih (i + 1) _ (by omega) (fun a ha => ?_) ?_ ?_ ?_ (fun j hj => ?_) ?_
    · rw [uH_ne (by omega), hb a (by omega), hu a ha]
    · rw [uH_ne (by omega), hb 10 (by omega), h0]
    · rw [uH_ne (by omega), hb 10 (by omega), h1]
    · rw [uH_ne (by omega), hb 10 (by omega), h2]
    · rw [uH_kb]
      by_cases hji : j = i
      · rw [if_pos hji, hji]
      · rw [if_neg hji, hb 11 (by omega), h3 j (by omega)]
    · refine Dn.app (b := 12 + 3 * i) (Dn.to h4 (fun a g1 g2 => ?_)) ?_
      · rw [uH_ne (by omega), hb a (by omega)]
      · rw [← e2]
        exact Dn.to hd1 (fun a g1 g2 => uH_ne (by omega))
set_option maxRecDepth 100000 in
theorem c_Past {Γ : GE} {G : HP} (hG : G 10 = dfl_7) : CV Γ 2 11 60 D_X7_init [.ref (gB Γ + 10)] G (QC Γ G 10 60) := by
  refine CV.of rfl (cat_all rfl) (Nat.le_of_ble_eq_true rfl) ?_
  show V Γ 2 11 60 D_X7_init (QC Γ G 10 60) 0 [.ref (gB Γ + 10), uu] [] 11 G
  refine V_aload_0 dX7_init_0 ?_
  refine V_objInit dX7_init_1 ml_Past_3 oi_1 oi_2 (by decide) (sumL rfl) ?_
  refine V_aload_0 dX7_init_4 ?_
  refine V_bipush dX7_init_5 (by decide) ?_
  refine V_anew3 (N := 16) dX7_init_7 kk_Past_9 ly_11 (by decide) (by decide) (by decide) ?_
  refine V_putF dX7_init_10 fl_Past_11 ly_10 (by decide) rfl rfl rfl rfl ?_
  refine V_iconst dX7_init_13 ?_
  refine V_istore_1 dX7_init_14 rfl rfl ?_
  refine past_loop 16 0 _ (by decide) (fun a ha => ?_) ?_ ?_ ?_ (fun j hj => absurd hj (Nat.not_lt_zero j)) (fun a g1 g2 => by omega)
  · simp (disch := omega) only [uH_ne, nH_ne]
  · simp (disch := omega) [uH_kb, nH_ne, hG, dfl_7]
  · simp (disch := omega) [uH_kb, nH_ne, hG, dfl_7]
    rfl
  · simp (disch := omega) [uH_kb, nH_ne, hG, dfl_7]
    rfl
set_option maxRecDepth 100000 in
set_option maxHeartbeats 4000000 in
theorem c_Book {Γ : GE} {G : HP} (hG : G 60 = dfl_1) : CV Γ 1 61 63 D_X1_init [.ref (gB Γ + 60)] G (QC Γ G 60 63) := by
  refine CV.of rfl (cat_all rfl) (Nat.le_of_ble_eq_true rfl) ?_
  show V Γ 1 61 63 D_X1_init (QC Γ G 60 63) 0 [.ref (gB Γ + 60)] [] 61 G
  refine V_aload_0 dX1_init_0 ?_
  refine V_objInit dX1_init_1 ml_Book_3 oi_1 oi_2 (by decide) (sumL rfl) ?_
  refine V_aload_0 dX1_init_4 ?_
  refine V_bipush dX1_init_5 (by decide) ?_
  refine V_newaI (N := 15) dX1_init_7 aw_int ly_61 (by decide) (by decide) (by decide) ?_
  refine V_putF dX1_init_9 fl_Book_9 ly_60 (by decide) rfl rfl rfl rfl ?_
  refine V_aload_0 dX1_init_12 ?_
  refine V_bipush dX1_init_13 (by decide) ?_
  refine V_newaI (N := 15) dX1_init_15 aw_int ly_62 (by decide) (by decide) (by decide) ?_
  refine V_putF dX1_init_17 fl_Book_15 ly_60 (by decide) rfl rfl rfl rfl ?_
  refine V_vreturn dX1_init_20 rfl ?_
  refine ⟨rfl, fun a ha => ?_, ?_⟩
  · simp (disch := omega) only [uH_ne, nH_ne]
  · refine Dn.app (b := 61) ?_ ?_
    · refine Dn.one (fun j hj => ?_)
      have hj : j < 3 := hj
      rcases (show j = 0 ∨ j = 1 ∨ j = 2 by omega) with rfl | rfl | rfl
      · rw [mk_some wr_60_0]
        simp (disch := omega) [uH_kb, uH_ne, nH_ne, nH_k, hG, dfl_0, dfl_1, dfl_2, dfl_3, dfl_4, dfl_5, dfl_6, dfl_7, dfl_8, dfl_9, dfl_10, dfl_11, x0, tid]
      · rw [mk_some wr_60_1]
        simp (disch := omega) [uH_kb, uH_ne, nH_ne, nH_k, hG, dfl_0, dfl_1, dfl_2, dfl_3, dfl_4, dfl_5, dfl_6, dfl_7, dfl_8, dfl_9, dfl_10, dfl_11, x0, tid]
      · rw [mk_none wn_60_2]
        simp (disch := omega) [uH_kb, uH_ne, nH_ne, nH_k, hG, dfl_0, dfl_1, dfl_2, dfl_3, dfl_4, dfl_5, dfl_6, dfl_7, dfl_8, dfl_9, dfl_10, dfl_11, x0, tid]
    · refine Dn.app (b := 62) ?_ ?_
      · exact Dn.arr ly_61 (by decide) (by decide) (by decide) (by simp (disch := omega) only [uH_ne, nH_ne, nH_k])
      · exact Dn.arr ly_62 (by decide) (by decide) (by decide) (by simp (disch := omega) only [uH_ne, nH_ne, nH_k])
set_option maxRecDepth 100000 in
set_option maxHeartbeats 4000000 in
theorem c_Draws {Γ : GE} {G : HP} (hG : G 63 = dfl_3) : CV Γ 1 64 64 D_X3_init [.ref (gB Γ + 63)] G (QC Γ G 63 64) := by
  refine CV.of rfl (cat_all rfl) (Nat.le_of_ble_eq_true rfl) ?_
  show V Γ 1 64 64 D_X3_init (QC Γ G 63 64) 0 [.ref (gB Γ + 63)] [] 64 G
  refine V_aload_0 dX3_init_0 ?_
  refine V_objInit dX3_init_1 ml_Draws_1 oi_1 oi_2 (by decide) (sumL rfl) ?_
  refine V_vreturn dX3_init_4 rfl ?_
  refine ⟨rfl, fun a ha => ?_, ?_⟩
  · simp (disch := omega) only [uH_ne, nH_ne]
  · refine Dn.one (fun j hj => ?_)
    have hj : j < 1 := hj
    have ej : j = 0 := by omega
    subst ej
    rw [mk_none wn_63_0]
    simp (disch := omega) [uH_kb, uH_ne, nH_ne, nH_k, hG, dfl_0, dfl_1, dfl_2, dfl_3, dfl_4, dfl_5, dfl_6, dfl_7, dfl_8, dfl_9, dfl_10, dfl_11, x0, tid]
set_option maxRecDepth 100000 in
set_option maxHeartbeats 4000000 in
theorem c_Fitting {Γ : GE} {G : HP} (hG : G 65 = dfl_4) : CV Γ 1 66 68 D_X4_init [.ref (gB Γ + 65), .ref (gB Γ + 3)] G (QC Γ G 65 68) := by
  refine CV.of rfl (cat_all rfl) (Nat.le_of_ble_eq_true rfl) ?_
  show V Γ 1 66 68 D_X4_init (QC Γ G 65 68) 0 [.ref (gB Γ + 65), .ref (gB Γ + 3)] [] 66 G
  refine V_aload_0 dX4_init_0 ?_
  refine V_objInit dX4_init_1 ml_Fitting_3 oi_1 oi_2 (by decide) (sumL rfl) ?_
  refine V_aload_0 dX4_init_4 ?_
  refine V_bipush dX4_init_5 (by decide) ?_
  refine V_newaI (N := 12) dX4_init_7 aw_int ly_66 (by decide) (by decide) (by decide) ?_
  refine V_putF dX4_init_9 fl_Fitting_9 ly_65 (by decide) rfl rfl rfl rfl ?_
  refine V_aload_0 dX4_init_12 ?_
  refine V_bipush dX4_init_13 (by decide) ?_
  refine V_newaI (N := 120) dX4_init_15 aw_int ly_67 (by decide) (by decide) (by decide) ?_
  refine V_putF dX4_init_17 fl_Fitting_15 ly_65 (by decide) rfl rfl rfl rfl ?_
  refine V_aload_0 dX4_init_20 ?_
  refine V_aload_1 dX4_init_21 ?_
  refine V_putF dX4_init_22 fl_Fitting_18 ly_65 (by decide) rfl rfl rfl rfl ?_
  refine V_vreturn dX4_init_25 rfl ?_
  refine ⟨rfl, fun a ha => ?_, ?_⟩
  · simp (disch := omega) only [uH_ne, nH_ne]
  · refine Dn.app (b := 66) ?_ ?_
    · refine Dn.one (fun j hj => ?_)
      have hj : j < 4 := hj
      rcases (show j = 0 ∨ j = 1 ∨ j = 2 ∨ j = 3 by omega) with rfl | rfl | rfl | rfl
      · rw [mk_some wr_65_0]
        simp (disch := omega) [uH_kb, uH_ne, nH_ne, nH_k, hG, dfl_0, dfl_1, dfl_2, dfl_3, dfl_4, dfl_5, dfl_6, dfl_7, dfl_8, dfl_9, dfl_10, dfl_11, x0, tid]
      · rw [mk_some wr_65_1]
        simp (disch := omega) [uH_kb, uH_ne, nH_ne, nH_k, hG, dfl_0, dfl_1, dfl_2, dfl_3, dfl_4, dfl_5, dfl_6, dfl_7, dfl_8, dfl_9, dfl_10, dfl_11, x0, tid]
      · rw [mk_some wr_65_2]
        simp (disch := omega) [uH_kb, uH_ne, nH_ne, nH_k, hG, dfl_0, dfl_1, dfl_2, dfl_3, dfl_4, dfl_5, dfl_6, dfl_7, dfl_8, dfl_9, dfl_10, dfl_11, x0, tid]
      · rw [mk_none wn_65_3]
        simp (disch := omega) [uH_kb, uH_ne, nH_ne, nH_k, hG, dfl_0, dfl_1, dfl_2, dfl_3, dfl_4, dfl_5, dfl_6, dfl_7, dfl_8, dfl_9, dfl_10, dfl_11, x0, tid]
    · refine Dn.app (b := 67) ?_ ?_
      · exact Dn.arr ly_66 (by decide) (by decide) (by decide) (by simp (disch := omega) only [uH_ne, nH_ne, nH_k])
      · exact Dn.arr ly_67 (by decide) (by decide) (by decide) (by simp (disch := omega) only [uH_ne, nH_ne, nH_k])
set_option maxRecDepth 100000 in
set_option maxHeartbeats 4000000 in
theorem c_Matching {Γ : GE} {G : HP} (hG : G 68 = dfl_6) : CV Γ 1 69 72 D_X6_init [.ref (gB Γ + 68), .ref (gB Γ + 3)] G (QC Γ G 68 72) := by
  refine CV.of rfl (cat_all rfl) (Nat.le_of_ble_eq_true rfl) ?_
  show V Γ 1 69 72 D_X6_init (QC Γ G 68 72) 0 [.ref (gB Γ + 68), .ref (gB Γ + 3)] [] 69 G
  refine V_aload_0 dX6_init_0 ?_
  refine V_objInit dX6_init_1 ml_Matching_3 oi_1 oi_2 (by decide) (sumL rfl) ?_
  refine V_aload_0 dX6_init_4 ?_
  refine V_bipush dX6_init_5 (by decide) ?_
  refine V_newaI (N := 12) dX6_init_7 aw_int ly_69 (by decide) (by decide) (by decide) ?_
  refine V_putF dX6_init_9 fl_Matching_9 ly_68 (by decide) rfl rfl rfl rfl ?_
  refine V_aload_0 dX6_init_12 ?_
  refine V_iconst dX6_init_13 ?_
  refine V_newaI (N := 5) dX6_init_14 aw_int ly_70 (by decide) (by decide) (by decide) ?_
  refine V_putF dX6_init_16 fl_Matching_15 ly_68 (by decide) rfl rfl rfl rfl ?_
  refine V_aload_0 dX6_init_19 ?_
  refine V_iconst dX6_init_20 ?_
  refine V_newaI (N := 5) dX6_init_21 aw_int ly_71 (by decide) (by decide) (by decide) ?_
  refine V_putF dX6_init_23 fl_Matching_18 ly_68 (by decide) rfl rfl rfl rfl ?_
  refine V_aload_0 dX6_init_26 ?_
  refine V_aload_1 dX6_init_27 ?_
  refine V_putF dX6_init_28 fl_Matching_21 ly_68 (by decide) rfl rfl rfl rfl ?_
  refine V_vreturn dX6_init_31 rfl ?_
  refine ⟨rfl, fun a ha => ?_, ?_⟩
  · simp (disch := omega) only [uH_ne, nH_ne]
  · refine Dn.app (b := 69) ?_ ?_
    · refine Dn.one (fun j hj => ?_)
      have hj : j < 4 := hj
      rcases (show j = 0 ∨ j = 1 ∨ j = 2 ∨ j = 3 by omega) with rfl | rfl | rfl | rfl
      · rw [mk_some wr_68_0]
        simp (disch := omega) [uH_kb, uH_ne, nH_ne, nH_k, hG, dfl_0, dfl_1, dfl_2, dfl_3, dfl_4, dfl_5, dfl_6, dfl_7, dfl_8, dfl_9, dfl_10, dfl_11, x0, tid]
      · rw [mk_some wr_68_1]
        simp (disch := omega) [uH_kb, uH_ne, nH_ne, nH_k, hG, dfl_0, dfl_1, dfl_2, dfl_3, dfl_4, dfl_5, dfl_6, dfl_7, dfl_8, dfl_9, dfl_10, dfl_11, x0, tid]
      · rw [mk_some wr_68_2]
        simp (disch := omega) [uH_kb, uH_ne, nH_ne, nH_k, hG, dfl_0, dfl_1, dfl_2, dfl_3, dfl_4, dfl_5, dfl_6, dfl_7, dfl_8, dfl_9, dfl_10, dfl_11, x0, tid]
      · rw [mk_some wr_68_3]
        simp (disch := omega) [uH_kb, uH_ne, nH_ne, nH_k, hG, dfl_0, dfl_1, dfl_2, dfl_3, dfl_4, dfl_5, dfl_6, dfl_7, dfl_8, dfl_9, dfl_10, dfl_11, x0, tid]
    · refine Dn.app (b := 70) ?_ ?_
      · exact Dn.arr ly_69 (by decide) (by decide) (by decide) (by simp (disch := omega) only [uH_ne, nH_ne, nH_k])
      · refine Dn.app (b := 71) ?_ ?_
        · exact Dn.arr ly_70 (by decide) (by decide) (by decide) (by simp (disch := omega) only [uH_ne, nH_ne, nH_k])
        · exact Dn.arr ly_71 (by decide) (by decide) (by decide) (by simp (disch := omega) only [uH_ne, nH_ne, nH_k])
theorem wr_75_0 {x : XM} : wire x 75 0 = some 76 := rfl
theorem wn_75_1 {x : XM} : wire x 75 1 = none := rfl
theorem wn_75_2 {x : XM} : wire x 75 2 = none := rfl
set_option maxRecDepth 100000 in
set_option maxHeartbeats 4000000 in
theorem c_Image75 {Γ : GE} {G : HP} (hG : G 75 = dfl_5) : CV Γ 2 76 79 D_X5_init [.ref (gB Γ + 75)] G (QC Γ G 75 79) := by
  refine CV.of rfl (cat_all rfl) (Nat.le_of_ble_eq_true rfl) ?_
  show V Γ 2 76 79 D_X5_init (QC Γ G 75 79) 0 [.ref (gB Γ + 75)] [] 76 G
  refine V_aload_0 dX5_init_0 ?_
  refine V_objInit dX5_init_1 ml_Image_1 oi_1 oi_2 (by decide) (sumL rfl) ?_
  refine V_aload_0 dX5_init_4 ?_
  refine V_new dX5_init_5 cn_Image_7 ly_76 (by decide) (by decide) ?_
  refine V_dup dX5_init_8 rfl ?_
  refine V_callIN (nC := 79) (As := []) (My := D_X2_init) dX5_init_9 (by decide) ce_X2_init rfl (by decide) (by decide) (by decide) (by decide) (sumL rfl) (c_Cloth ly_76 ly_77 ly_78 nH_k) (fun v G1 hG1 => ?_)
  obtain ⟨rfl, hu1, hd1⟩ := hG1
  refine V_putF dX5_init_12 fl_Image_10 ly_75 (by decide) rfl rfl rfl rfl ?_
  refine V_vreturn dX5_init_15 rfl ?_
  refine ⟨rfl, fun a ha => ?_, ?_⟩
  · simp (disch := omega) only [uH_ne, nH_ne, hu1]
  · refine Dn.app (b := 76) ?_ ?_
    · refine Dn.one (fun j hj => ?_)
      have hj : j < 3 := hj
      rcases (show j = 0 ∨ j = 1 ∨ j = 2 by omega) with rfl | rfl | rfl
      · rw [mk_some wr_75_0]
        simp (disch := omega) [uH_kb, uH_ne, nH_ne, nH_k, hG, hu1, dfl_0, dfl_1, dfl_2, dfl_3, dfl_4, dfl_5, dfl_6, dfl_7, dfl_8, dfl_9, dfl_10, dfl_11, x0, tid]
      · rw [mk_none wn_75_1]
        simp (disch := omega) [uH_kb, uH_ne, nH_ne, nH_k, hG, hu1, dfl_0, dfl_1, dfl_2, dfl_3, dfl_4, dfl_5, dfl_6, dfl_7, dfl_8, dfl_9, dfl_10, dfl_11, x0, tid]
      · rw [mk_none wn_75_2]
        simp (disch := omega) [uH_kb, uH_ne, nH_ne, nH_k, hG, hu1, dfl_0, dfl_1, dfl_2, dfl_3, dfl_4, dfl_5, dfl_6, dfl_7, dfl_8, dfl_9, dfl_10, dfl_11, x0, tid]
    · exact Dn.to hd1 (fun a g1 g2 => by simp (disch := omega) only [uH_ne, nH_ne, hu1])
theorem wr_79_0 {x : XM} : wire x 79 0 = some 80 := rfl
theorem wn_79_1 {x : XM} : wire x 79 1 = none := rfl
theorem wn_79_2 {x : XM} : wire x 79 2 = none := rfl
set_option maxRecDepth 100000 in
set_option maxHeartbeats 4000000 in
theorem c_Image79 {Γ : GE} {G : HP} (hG : G 79 = dfl_5) : CV Γ 2 80 83 D_X5_init [.ref (gB Γ + 79)] G (QC Γ G 79 83) := by
  refine CV.of rfl (cat_all rfl) (Nat.le_of_ble_eq_true rfl) ?_
  show V Γ 2 80 83 D_X5_init (QC Γ G 79 83) 0 [.ref (gB Γ + 79)] [] 80 G
  refine V_aload_0 dX5_init_0 ?_
  refine V_objInit dX5_init_1 ml_Image_1 oi_1 oi_2 (by decide) (sumL rfl) ?_
  refine V_aload_0 dX5_init_4 ?_
  refine V_new dX5_init_5 cn_Image_7 ly_80 (by decide) (by decide) ?_
  refine V_dup dX5_init_8 rfl ?_
  refine V_callIN (nC := 83) (As := []) (My := D_X2_init) dX5_init_9 (by decide) ce_X2_init rfl (by decide) (by decide) (by decide) (by decide) (sumL rfl) (c_Cloth ly_80 ly_81 ly_82 nH_k) (fun v G1 hG1 => ?_)
  obtain ⟨rfl, hu1, hd1⟩ := hG1
  refine V_putF dX5_init_12 fl_Image_10 ly_79 (by decide) rfl rfl rfl rfl ?_
  refine V_vreturn dX5_init_15 rfl ?_
  refine ⟨rfl, fun a ha => ?_, ?_⟩
  · simp (disch := omega) only [uH_ne, nH_ne, hu1]
  · refine Dn.app (b := 80) ?_ ?_
    · refine Dn.one (fun j hj => ?_)
      have hj : j < 3 := hj
      rcases (show j = 0 ∨ j = 1 ∨ j = 2 by omega) with rfl | rfl | rfl
      · rw [mk_some wr_79_0]
        simp (disch := omega) [uH_kb, uH_ne, nH_ne, nH_k, hG, hu1, dfl_0, dfl_1, dfl_2, dfl_3, dfl_4, dfl_5, dfl_6, dfl_7, dfl_8, dfl_9, dfl_10, dfl_11, x0, tid]
      · rw [mk_none wn_79_1]
        simp (disch := omega) [uH_kb, uH_ne, nH_ne, nH_k, hG, hu1, dfl_0, dfl_1, dfl_2, dfl_3, dfl_4, dfl_5, dfl_6, dfl_7, dfl_8, dfl_9, dfl_10, dfl_11, x0, tid]
      · rw [mk_none wn_79_2]
        simp (disch := omega) [uH_kb, uH_ne, nH_ne, nH_k, hG, hu1, dfl_0, dfl_1, dfl_2, dfl_3, dfl_4, dfl_5, dfl_6, dfl_7, dfl_8, dfl_9, dfl_10, dfl_11, x0, tid]
    · exact Dn.to hd1 (fun a g1 g2 => by simp (disch := omega) only [uH_ne, nH_ne, hu1])
set_option maxRecDepth 100000 in
set_option maxHeartbeats 4000000 in
theorem c_Tin {Γ : GE} {G : HP} (hG : G 0 = dfl_10) : CV Γ 3 1 83 D_X10_init [.ref (gB Γ + 0)] G (QC Γ G 0 83) := by
  refine CV.of rfl (cat_all rfl) (Nat.le_of_ble_eq_true rfl) ?_
  show V Γ 3 1 83 D_X10_init (QC Γ G 0 83) 0 [.ref (gB Γ + 0), uu] [] 1 G
  refine V_aload_0 dX10_init_0 ?_
  refine V_objInit dX10_init_1 ml_T_1 oi_1 oi_2 (by decide) (sumL rfl) ?_
  refine V_aload_0 dX10_init_4 ?_
  refine V_new dX10_init_5 cn_T_7 ly_1 (by decide) (by decide) ?_
  refine V_dup dX10_init_8 rfl ?_
  refine V_callIN (nC := 3) (As := []) (My := D_X8_init) dX10_init_9 (by decide) ce_X8_init rfl (by decide) (by decide) (by decide) (by decide) (sumL rfl) (c_Reader nH_k) (fun v G1 hG1 => ?_)
  obtain ⟨rfl, hu1, hd1⟩ := hG1
  refine V_putF dX10_init_12 fl_T_10 ly_0 (by decide) rfl rfl rfl rfl ?_
  refine V_aload_0 dX10_init_15 ?_
  refine V_new dX10_init_16 cn_T_16 ly_3 (by decide) (by decide) ?_
  refine V_dup dX10_init_19 rfl ?_
  refine V_callIN (nC := 10) (As := []) (My := D_X0_init) dX10_init_20 (by decide) ce_X0_init rfl (by decide) (by decide) (by decide) (by decide) (sumL rfl) (c_Bench nH_k) (fun v G2 hG2 => ?_)
  obtain ⟨rfl, hu2, hd2⟩ := hG2
  refine V_putF dX10_init_23 fl_T_19 ly_0 (by decide) rfl rfl rfl rfl ?_
  refine V_aload_0 dX10_init_26 ?_
  refine V_new dX10_init_27 cn_T_23 ly_10 (by decide) (by decide) ?_
  refine V_dup dX10_init_30 rfl ?_
  refine V_callI (nC := 60) (As := []) (My := D_X7_init) dX10_init_31 ml_T_25 ce_X7_init rfl (by decide) (by decide) (by decide) (by decide) (sumL rfl) (c_Past nH_k) (fun v G3 hG3 => ?_)
  obtain ⟨rfl, hu3, hd3⟩ := hG3
  refine V_putF dX10_init_34 fl_T_26 ly_0 (by decide) rfl rfl rfl rfl ?_
  refine V_aload_0 dX10_init_37 ?_
  refine V_new dX10_init_38 cn_T_30 ly_60 (by decide) (by decide) ?_
  refine V_dup dX10_init_41 rfl ?_
  refine V_callIN (nC := 63) (As := []) (My := D_X1_init) dX10_init_42 (by decide) ce_X1_init rfl (by decide) (by decide) (by decide) (by decide) (sumL rfl) (c_Book nH_k) (fun v G4 hG4 => ?_)
  obtain ⟨rfl, hu4, hd4⟩ := hG4
  refine V_putF dX10_init_45 fl_T_33 ly_0 (by decide) rfl rfl rfl rfl ?_
  refine V_aload_0 dX10_init_48 ?_
  refine V_new dX10_init_49 cn_T_37 ly_63 (by decide) (by decide) ?_
  refine V_dup dX10_init_52 rfl ?_
  refine V_callIN (nC := 64) (As := []) (My := D_X3_init) dX10_init_53 (by decide) ce_X3_init rfl (by decide) (by decide) (by decide) (by decide) (sumL rfl) (c_Draws nH_k) (fun v G5 hG5 => ?_)
  obtain ⟨rfl, hu5, hd5⟩ := hG5
  refine V_putF dX10_init_56 fl_T_40 ly_0 (by decide) rfl rfl rfl rfl ?_
  refine V_aload_0 dX10_init_59 ?_
  refine V_iconst dX10_init_60 ?_
  refine V_anew4 (N := 2) dX10_init_61 kk_T_44 ly_64 (by decide) (by decide) (by decide) ?_
  refine V_putF dX10_init_64 fl_T_46 ly_0 (by decide) rfl rfl rfl rfl ?_
  refine V_aload_0 dX10_init_67 ?_
  refine V_new dX10_init_68 cn_T_50 ly_65 (by decide) (by decide) ?_
  refine V_dup dX10_init_71 rfl ?_
  refine V_aload_0 dX10_init_72 ?_
  refine V_getfE (v := .ref (gB Γ + 3)) dX10_init_73 fl_T_19 ly_0 (by decide) (by simp (disch := omega) [uH_kb, uH_ne, nH_ne, nH_k, hG, hu1, hu2, hu3, hu4, hu5, dfl_0, dfl_1, dfl_2, dfl_3, dfl_4, dfl_5, dfl_6, dfl_7, dfl_8, dfl_9, dfl_10, dfl_11]) ?_
  refine V_callI (nC := 68) (As := [.ref (gB Γ + 3)]) (My := D_X4_init) dX10_init_76 ml_T_52 ce_X4_init rfl (by decide) (by decide) (by decide) (by decide) (sumL rfl) (c_Fitting nH_k) (fun v G6 hG6 => ?_)
  obtain ⟨rfl, hu6, hd6⟩ := hG6
  refine V_putF dX10_init_79 fl_T_55 ly_0 (by decide) rfl rfl rfl rfl ?_
  refine V_aload_0 dX10_init_82 ?_
  refine V_new dX10_init_83 cn_T_59 ly_68 (by decide) (by decide) ?_
  refine V_dup dX10_init_86 rfl ?_
  refine V_aload_0 dX10_init_87 ?_
  refine V_getfE (v := .ref (gB Γ + 3)) dX10_init_88 fl_T_19 ly_0 (by decide) (by simp (disch := omega) [uH_kb, uH_ne, nH_ne, nH_k, hG, hu1, hu2, hu3, hu4, hu5, hu6, dfl_0, dfl_1, dfl_2, dfl_3, dfl_4, dfl_5, dfl_6, dfl_7, dfl_8, dfl_9, dfl_10, dfl_11]) ?_
  refine V_callI (nC := 72) (As := [.ref (gB Γ + 3)]) (My := D_X6_init) dX10_init_91 ml_T_61 ce_X6_init rfl (by decide) (by decide) (by decide) (by decide) (sumL rfl) (c_Matching nH_k) (fun v G7 hG7 => ?_)
  obtain ⟨rfl, hu7, hd7⟩ := hG7
  refine V_putF dX10_init_94 fl_T_62 ly_0 (by decide) rfl rfl rfl rfl ?_
  refine V_aload_0 dX10_init_97 ?_
  refine V_new dX10_init_98 cn_T_66 ly_72 (by decide) (by decide) ?_
  refine V_dup dX10_init_101 rfl ?_
  refine V_callIN (nC := 75) (As := []) (My := D_X9_init) dX10_init_102 (by decide) ce_X9_init rfl (by decide) (by decide) (by decide) (by decide) (sumL rfl) (c_Telling ly_72 ly_73 ly_74 nH_k) (fun v G8 hG8 => ?_)
  obtain ⟨rfl, hu8, hd8⟩ := hG8
  refine V_putf dX10_init_105 fl_T_69 ly_0 (by decide) rfl rfl ?_
  refine V_aload_0 dX10_init_108 ?_
  refine V_iconst dX10_init_109 ?_
  refine V_putf dX10_init_110 fl_T_73 ly_0 (by decide) rfl rfl ?_
  refine V_iconst dX10_init_113 ?_
  refine V_istore_1 dX10_init_114 rfl rfl ?_
  refine V_iload_1 dX10_init_115 ?_
  refine V_iconst dX10_init_116 ?_
  refine V_icmp_ge 139 dX10_init_117 (by decide) (rgL rfl) (rgL rfl) ⟨fun c => absurd c (by decide), fun c => ?_⟩
  refine V_aload_0 dX10_init_120 ?_
  refine V_getfE (v := .ref (gB Γ + 64)) dX10_init_121 fl_T_46 ly_0 (by decide) (by simp (disch := omega) [uH_kb, uH_ne, nH_ne, nH_k, hG, hu1, hu2, hu3, hu4, hu5, hu6, hu7, hu8, dfl_0, dfl_1, dfl_2, dfl_3, dfl_4, dfl_5, dfl_6, dfl_7, dfl_8, dfl_9, dfl_10, dfl_11]) ?_
  refine V_iload_1 dX10_init_124 ?_
  refine V_new dX10_init_125 cn_T_44 ly_75 (by decide) (by decide) ?_
  refine V_dup dX10_init_128 rfl ?_
  refine V_callIN (nC := 79) (As := []) (My := D_X5_init) dX10_init_129 (by decide) ce_X5_init rfl (by decide) (by decide) (by decide) (by decide) (sumL rfl) (c_Image75 nH_k) (fun v G9 hG9 => ?_)
  obtain ⟨rfl, hu9, hd9⟩ := hG9
  refine V_aast4 (k := 64) (kv := 75) dX10_init_132 ly_64 (by decide) (by decide) (by decide) (by decide) ly_75 (by decide) ?_
  refine V_iinc_1 (a1 := uu) dX10_init_133 rfl ?_
  show V Γ 3 1 83 D_X10_init _ _ [.ref (gB Γ + 0), vI 1] [] 79 _
  refine V_goto 115 dX10_init_136 (by decide) ?_
  refine V_iload_1 dX10_init_115 ?_
  refine V_iconst dX10_init_116 ?_
  refine V_icmp_ge 139 dX10_init_117 (by decide) (rgL rfl) (rgL rfl) ⟨fun c => absurd c (by decide), fun c => ?_⟩
  refine V_aload_0 dX10_init_120 ?_
  refine V_getfE (v := .ref (gB Γ + 64)) dX10_init_121 fl_T_46 ly_0 (by decide) (by simp (disch := omega) [uH_kb, uH_ne, nH_ne, nH_k, hG, hu1, hu2, hu3, hu4, hu5, hu6, hu7, hu8, hu9, dfl_0, dfl_1, dfl_2, dfl_3, dfl_4, dfl_5, dfl_6, dfl_7, dfl_8, dfl_9, dfl_10, dfl_11]) ?_
  refine V_iload_1 dX10_init_124 ?_
  refine V_new dX10_init_125 cn_T_44 ly_79 (by decide) (by decide) ?_
  refine V_dup dX10_init_128 rfl ?_
  refine V_callIN (nC := 83) (As := []) (My := D_X5_init) dX10_init_129 (by decide) ce_X5_init rfl (by decide) (by decide) (by decide) (by decide) (sumL rfl) (c_Image79 nH_k) (fun v G10 hG10 => ?_)
  obtain ⟨rfl, hu10, hd10⟩ := hG10
  refine V_aast4 (k := 64) (kv := 79) dX10_init_132 ly_64 (by decide) (by decide) (by decide) (by decide) ly_79 (by decide) ?_
  refine V_iinc_1 (a1 := uu) dX10_init_133 rfl ?_
  show V Γ 3 1 83 D_X10_init _ _ [.ref (gB Γ + 0), vI 2] [] 83 _
  refine V_goto 115 dX10_init_136 (by decide) ?_
  refine V_iload_1 dX10_init_115 ?_
  refine V_iconst dX10_init_116 ?_
  refine V_icmp_ge 139 dX10_init_117 (by decide) (rgL rfl) (rgL rfl) ⟨fun c => ?_, fun c => absurd c (by decide)⟩
  refine V_vreturn dX10_init_139 rfl ?_
  refine ⟨rfl, fun a ha => ?_, ?_⟩
  · simp (disch := omega) only [uH_ne, nH_ne, hu1, hu2, hu3, hu4, hu5, hu6, hu7, hu8, hu9, hu10]
  · refine Dn.app (b := 1) ?_ ?_
    · refine Dn.one (fun j hj => ?_)
      have hj : j < 10 := hj
      rcases (show j = 0 ∨ j = 1 ∨ j = 2 ∨ j = 3 ∨ j = 4 ∨ j = 5 ∨ j = 6 ∨ j = 7 ∨ j = 8 ∨ j = 9 by omega) with rfl | rfl | rfl | rfl | rfl | rfl | rfl | rfl | rfl | rfl
      · rw [mk_some wr_0_0]
        simp (disch := omega) [uH_kb, uH_ne, nH_ne, nH_k, hG, hu1, hu2, hu3, hu4, hu5, hu6, hu7, hu8, hu9, hu10, dfl_0, dfl_1, dfl_2, dfl_3, dfl_4, dfl_5, dfl_6, dfl_7, dfl_8, dfl_9, dfl_10, dfl_11, x0, tid]
      · rw [mk_some wr_0_1]
        simp (disch := omega) [uH_kb, uH_ne, nH_ne, nH_k, hG, hu1, hu2, hu3, hu4, hu5, hu6, hu7, hu8, hu9, hu10, dfl_0, dfl_1, dfl_2, dfl_3, dfl_4, dfl_5, dfl_6, dfl_7, dfl_8, dfl_9, dfl_10, dfl_11, x0, tid]
      · rw [mk_some wr_0_2]
        simp (disch := omega) [uH_kb, uH_ne, nH_ne, nH_k, hG, hu1, hu2, hu3, hu4, hu5, hu6, hu7, hu8, hu9, hu10, dfl_0, dfl_1, dfl_2, dfl_3, dfl_4, dfl_5, dfl_6, dfl_7, dfl_8, dfl_9, dfl_10, dfl_11, x0, tid]
      · rw [mk_some wr_0_3]
        simp (disch := omega) [uH_kb, uH_ne, nH_ne, nH_k, hG, hu1, hu2, hu3, hu4, hu5, hu6, hu7, hu8, hu9, hu10, dfl_0, dfl_1, dfl_2, dfl_3, dfl_4, dfl_5, dfl_6, dfl_7, dfl_8, dfl_9, dfl_10, dfl_11, x0, tid]
      · rw [mk_some wr_0_4]
        simp (disch := omega) [uH_kb, uH_ne, nH_ne, nH_k, hG, hu1, hu2, hu3, hu4, hu5, hu6, hu7, hu8, hu9, hu10, dfl_0, dfl_1, dfl_2, dfl_3, dfl_4, dfl_5, dfl_6, dfl_7, dfl_8, dfl_9, dfl_10, dfl_11, x0, tid]
      · rw [mk_some wr_0_5]
        simp (disch := omega) [uH_kb, uH_ne, nH_ne, nH_k, hG, hu1, hu2, hu3, hu4, hu5, hu6, hu7, hu8, hu9, hu10, dfl_0, dfl_1, dfl_2, dfl_3, dfl_4, dfl_5, dfl_6, dfl_7, dfl_8, dfl_9, dfl_10, dfl_11, x0, tid]
      · rw [mk_some wr_0_6]
        simp (disch := omega) [uH_kb, uH_ne, nH_ne, nH_k, hG, hu1, hu2, hu3, hu4, hu5, hu6, hu7, hu8, hu9, hu10, dfl_0, dfl_1, dfl_2, dfl_3, dfl_4, dfl_5, dfl_6, dfl_7, dfl_8, dfl_9, dfl_10, dfl_11, x0, tid]
      · rw [mk_some wr_0_7]
        simp (disch := omega) [uH_kb, uH_ne, nH_ne, nH_k, hG, hu1, hu2, hu3, hu4, hu5, hu6, hu7, hu8, hu9, hu10, dfl_0, dfl_1, dfl_2, dfl_3, dfl_4, dfl_5, dfl_6, dfl_7, dfl_8, dfl_9, dfl_10, dfl_11, x0, tid]
      · rw [mk_some wr_0_8]
        simp (disch := omega) [uH_kb, uH_ne, nH_ne, nH_k, hG, hu1, hu2, hu3, hu4, hu5, hu6, hu7, hu8, hu9, hu10, dfl_0, dfl_1, dfl_2, dfl_3, dfl_4, dfl_5, dfl_6, dfl_7, dfl_8, dfl_9, dfl_10, dfl_11, x0, tid]
      · rw [mk_none wn_0_9]
        simp (disch := omega) [uH_kb, uH_ne, nH_ne, nH_k, hG, hu1, hu2, hu3, hu4, hu5, hu6, hu7, hu8, hu9, hu10, dfl_0, dfl_1, dfl_2, dfl_3, dfl_4, dfl_5, dfl_6, dfl_7, dfl_8, dfl_9, dfl_10, dfl_11, x0, tid]
    · refine Dn.app (b := 3) ?_ ?_
      · exact Dn.to hd1 (fun a g1 g2 => by simp (disch := omega) only [uH_ne, nH_ne, hu1, hu2, hu3, hu4, hu5, hu6, hu7, hu8, hu9, hu10])
      · refine Dn.app (b := 10) ?_ ?_
        · exact Dn.to hd2 (fun a g1 g2 => by simp (disch := omega) only [uH_ne, nH_ne, hu1, hu2, hu3, hu4, hu5, hu6, hu7, hu8, hu9, hu10])
        · refine Dn.app (b := 60) ?_ ?_
          · exact Dn.to hd3 (fun a g1 g2 => by simp (disch := omega) only [uH_ne, nH_ne, hu1, hu2, hu3, hu4, hu5, hu6, hu7, hu8, hu9, hu10])
          · refine Dn.app (b := 63) ?_ ?_
            · exact Dn.to hd4 (fun a g1 g2 => by simp (disch := omega) only [uH_ne, nH_ne, hu1, hu2, hu3, hu4, hu5, hu6, hu7, hu8, hu9, hu10])
            · refine Dn.app (b := 64) ?_ ?_
              · exact Dn.to hd5 (fun a g1 g2 => by simp (disch := omega) only [uH_ne, nH_ne, hu1, hu2, hu3, hu4, hu5, hu6, hu7, hu8, hu9, hu10])
              · refine Dn.app (b := 65) ?_ ?_
                · refine Dn.one (fun j hj => ?_)
                  have hj : j < 2 := hj
                  rcases (show j = 0 ∨ j = 1 by omega) with rfl | rfl
                  · rw [mk_some imgs_w]
                    simp (disch := omega) [uH_kb, uH_ne, nH_ne, nH_k, hG, hu1, hu2, hu3, hu4, hu5, hu6, hu7, hu8, hu9, hu10, dfl_0, dfl_1, dfl_2, dfl_3, dfl_4, dfl_5, dfl_6, dfl_7, dfl_8, dfl_9, dfl_10, dfl_11, x0, tid]
                  · rw [mk_some imgs_w]
                    simp (disch := omega) [uH_kb, uH_ne, nH_ne, nH_k, hG, hu1, hu2, hu3, hu4, hu5, hu6, hu7, hu8, hu9, hu10, dfl_0, dfl_1, dfl_2, dfl_3, dfl_4, dfl_5, dfl_6, dfl_7, dfl_8, dfl_9, dfl_10, dfl_11, x0, tid]
                · refine Dn.app (b := 68) ?_ ?_
                  · exact Dn.to hd6 (fun a g1 g2 => by simp (disch := omega) only [uH_ne, nH_ne, hu1, hu2, hu3, hu4, hu5, hu6, hu7, hu8, hu9, hu10])
                  · refine Dn.app (b := 72) ?_ ?_
                    · exact Dn.to hd7 (fun a g1 g2 => by simp (disch := omega) only [uH_ne, nH_ne, hu1, hu2, hu3, hu4, hu5, hu6, hu7, hu8, hu9, hu10])
                    · refine Dn.app (b := 75) ?_ ?_
                      · exact Dn.to hd8 (fun a g1 g2 => by simp (disch := omega) only [uH_ne, nH_ne, hu1, hu2, hu3, hu4, hu5, hu6, hu7, hu8, hu9, hu10])
                      · refine Dn.app (b := 79) ?_ ?_
                        · exact Dn.to hd9 (fun a g1 g2 => by simp (disch := omega) only [uH_ne, nH_ne, hu1, hu2, hu3, hu4, hu5, hu6, hu7, hu8, hu9, hu10])
                        · exact Dn.to hd10 (fun a g1 g2 => by simp (disch := omega) only [uH_ne, nH_ne, hu1, hu2, hu3, hu4, hu5, hu6, hu7, hu8, hu9, hu10])
set_option maxRecDepth 100000 in
set_option maxHeartbeats 4000000 in
theorem c_Model {Γ : GE} {G : HP} (hG : G 83 = dfl_11) : CV Γ 1 84 103 D_X11_init [.ref (gB Γ + 83)] G (QC Γ G 83 103) := by
  refine CV.of rfl (cat_all rfl) (Nat.le_of_ble_eq_true rfl) ?_
  show V Γ 1 84 103 D_X11_init (QC Γ G 83 103) 0 [.ref (gB Γ + 83)] [] 84 G
  refine V_aload_0 dX11_init_0 ?_
  refine V_objInit dX11_init_1 ml_R_1 oi_1 oi_2 (by decide) (sumL rfl) ?_
  refine V_aload_0 dX11_init_4 ?_
  refine V_sipush dX11_init_5 (by decide) ?_
  refine V_newaB (N := 240) dX11_init_8 aw_byte ly_84 (by decide) (by decide) (by decide) ?_
  refine V_putF dX11_init_10 fl_R_7 ly_83 (by decide) rfl rfl rfl rfl ?_
  refine V_aload_0 dX11_init_13 ?_
  refine V_bipush dX11_init_14 (by decide) ?_
  refine V_newaI (N := 48) dX11_init_16 aw_int ly_85 (by decide) (by decide) (by decide) ?_
  refine V_putF dX11_init_18 fl_R_13 ly_83 (by decide) rfl rfl rfl rfl ?_
  refine V_aload_0 dX11_init_21 ?_
  refine V_bipush dX11_init_22 (by decide) ?_
  refine V_newaI (N := 24) dX11_init_24 aw_int ly_86 (by decide) (by decide) (by decide) ?_
  refine V_putF dX11_init_26 fl_R_17 ly_83 (by decide) rfl rfl rfl rfl ?_
  refine V_aload_0 dX11_init_29 ?_
  refine V_bipush dX11_init_30 (by decide) ?_
  refine V_newaI (N := 20) dX11_init_32 aw_int ly_87 (by decide) (by decide) (by decide) ?_
  refine V_putF dX11_init_34 fl_R_20 ly_83 (by decide) rfl rfl rfl rfl ?_
  refine V_aload_0 dX11_init_37 ?_
  refine V_iconst dX11_init_38 ?_
  refine V_newaI (N := 5) dX11_init_39 aw_int ly_88 (by decide) (by decide) (by decide) ?_
  refine V_putF dX11_init_41 fl_R_23 ly_83 (by decide) rfl rfl rfl rfl ?_
  refine V_aload_0 dX11_init_44 ?_
  refine V_bipush dX11_init_45 (by decide) ?_
  refine V_newaI (N := 48) dX11_init_47 aw_int ly_89 (by decide) (by decide) (by decide) ?_
  refine V_putF dX11_init_49 fl_R_26 ly_83 (by decide) rfl rfl rfl rfl ?_
  refine V_aload_0 dX11_init_52 ?_
  refine V_bipush dX11_init_53 (by decide) ?_
  refine V_newaI (N := 24) dX11_init_55 aw_int ly_90 (by decide) (by decide) (by decide) ?_
  refine V_putF dX11_init_57 fl_R_29 ly_83 (by decide) rfl rfl rfl rfl ?_
  refine V_aload_0 dX11_init_60 ?_
  refine V_bipush dX11_init_61 (by decide) ?_
  refine V_newaI (N := 20) dX11_init_63 aw_int ly_91 (by decide) (by decide) (by decide) ?_
  refine V_putF dX11_init_65 fl_R_32 ly_83 (by decide) rfl rfl rfl rfl ?_
  refine V_aload_0 dX11_init_68 ?_
  refine V_iconst dX11_init_69 ?_
  refine V_newaI (N := 5) dX11_init_70 aw_int ly_92 (by decide) (by decide) (by decide) ?_
  refine V_putF dX11_init_72 fl_R_35 ly_83 (by decide) rfl rfl rfl rfl ?_
  refine V_aload_0 dX11_init_75 ?_
  refine V_bipush dX11_init_76 (by decide) ?_
  refine V_newaI (N := 31) dX11_init_78 aw_int ly_93 (by decide) (by decide) (by decide) ?_
  refine V_putF dX11_init_80 fl_R_38 ly_83 (by decide) rfl rfl rfl rfl ?_
  refine V_aload_0 dX11_init_83 ?_
  refine V_sipush dX11_init_84 (by decide) ?_
  refine V_newaI (N := 496) dX11_init_87 aw_int ly_94 (by decide) (by decide) (by decide) ?_
  refine V_putF dX11_init_89 fl_R_41 ly_83 (by decide) rfl rfl rfl rfl ?_
  refine V_aload_0 dX11_init_92 ?_
  refine V_bipush dX11_init_93 (by decide) ?_
  refine V_newaI (N := 62) dX11_init_95 aw_int ly_95 (by decide) (by decide) (by decide) ?_
  refine V_putF dX11_init_97 fl_R_44 ly_83 (by decide) rfl rfl rfl rfl ?_
  refine V_aload_0 dX11_init_100 ?_
  refine V_iconst dX11_init_101 ?_
  refine V_newaI (N := 2) dX11_init_102 aw_int ly_96 (by decide) (by decide) (by decide) ?_
  refine V_putF dX11_init_104 fl_R_47 ly_83 (by decide) rfl rfl rfl rfl ?_
  refine V_aload_0 dX11_init_107 ?_
  refine V_iconst dX11_init_108 ?_
  refine V_newaZ (N := 2) dX11_init_109 aw_boolean ly_97 (by decide) (by decide) (by decide) ?_
  refine V_putF dX11_init_111 fl_R_50 ly_83 (by decide) rfl rfl rfl rfl ?_
  refine V_aload_0 dX11_init_114 ?_
  refine V_bipush dX11_init_115 (by decide) ?_
  refine V_newaZ (N := 120) dX11_init_117 aw_boolean ly_98 (by decide) (by decide) (by decide) ?_
  refine V_putF dX11_init_119 fl_R_54 ly_83 (by decide) rfl rfl rfl rfl ?_
  refine V_aload_0 dX11_init_122 ?_
  refine V_bipush dX11_init_123 (by decide) ?_
  refine V_newaI (N := 120) dX11_init_125 aw_int ly_99 (by decide) (by decide) (by decide) ?_
  refine V_putF dX11_init_127 fl_R_57 ly_83 (by decide) rfl rfl rfl rfl ?_
  refine V_aload_0 dX11_init_130 ?_
  refine V_sipush dX11_init_131 (by decide) ?_
  refine V_newaI (N := 24576) dX11_init_134 aw_int ly_100 (by decide) (by decide) (by decide) ?_
  refine V_putF dX11_init_136 fl_R_60 ly_83 (by decide) rfl rfl rfl rfl ?_
  refine V_aload_0 dX11_init_139 ?_
  refine V_bipush dX11_init_140 (by decide) ?_
  refine V_newaI (N := 15) dX11_init_142 aw_int ly_101 (by decide) (by decide) (by decide) ?_
  refine V_putF dX11_init_144 fl_R_63 ly_83 (by decide) rfl rfl rfl rfl ?_
  refine V_aload_0 dX11_init_147 ?_
  refine V_bipush dX11_init_148 (by decide) ?_
  refine V_newaI (N := 15) dX11_init_150 aw_int ly_102 (by decide) (by decide) (by decide) ?_
  refine V_putF dX11_init_152 fl_R_66 ly_83 (by decide) rfl rfl rfl rfl ?_
  refine V_aload_0 dX11_init_155 ?_
  refine V_iconst dX11_init_156 ?_
  refine V_putf dX11_init_157 fl_R_69 ly_83 (by decide) rfl rfl ?_
  refine V_vreturn dX11_init_160 rfl ?_
  refine ⟨rfl, fun a ha => ?_, ?_⟩
  · simp (disch := omega) only [uH_ne, nH_ne]
  · refine Dn.app (b := 84) ?_ ?_
    · refine Dn.one (fun j hj => ?_)
      have hj : j < 39 := hj
      rcases (show j = 0 ∨ j = 1 ∨ j = 2 ∨ j = 3 ∨ j = 4 ∨ j = 5 ∨ j = 6 ∨ j = 7 ∨ j = 8 ∨ j = 9 ∨ j = 10 ∨ j = 11 ∨ j = 12 ∨ j = 13 ∨ j = 14 ∨ j = 15 ∨ j = 16 ∨ j = 17 ∨ j = 18 ∨ j = 19 ∨ j = 20 ∨ j = 21 ∨ j = 22 ∨ j = 23 ∨ j = 24 ∨ j = 25 ∨ j = 26 ∨ j = 27 ∨ j = 28 ∨ j = 29 ∨ j = 30 ∨ j = 31 ∨ j = 32 ∨ j = 33 ∨ j = 34 ∨ j = 35 ∨ j = 36 ∨ j = 37 ∨ j = 38 by omega) with rfl | rfl | rfl | rfl | rfl | rfl | rfl | rfl | rfl | rfl | rfl | rfl | rfl | rfl | rfl | rfl | rfl | rfl | rfl | rfl | rfl | rfl | rfl | rfl | rfl | rfl | rfl | rfl | rfl | rfl | rfl | rfl | rfl | rfl | rfl | rfl | rfl | rfl | rfl
      · rw [mk_some wr_83_0]
        simp (disch := omega) [uH_kb, uH_ne, nH_ne, nH_k, hG, dfl_0, dfl_1, dfl_2, dfl_3, dfl_4, dfl_5, dfl_6, dfl_7, dfl_8, dfl_9, dfl_10, dfl_11, x0, tid]
      · rw [mk_none wn_83_1]
        simp (disch := omega) [uH_kb, uH_ne, nH_ne, nH_k, hG, dfl_0, dfl_1, dfl_2, dfl_3, dfl_4, dfl_5, dfl_6, dfl_7, dfl_8, dfl_9, dfl_10, dfl_11, x0, tid]
      · rw [mk_none wn_83_2]
        simp (disch := omega) [uH_kb, uH_ne, nH_ne, nH_k, hG, dfl_0, dfl_1, dfl_2, dfl_3, dfl_4, dfl_5, dfl_6, dfl_7, dfl_8, dfl_9, dfl_10, dfl_11, x0, tid]
      · rw [mk_none wn_83_3]
        simp (disch := omega) [uH_kb, uH_ne, nH_ne, nH_k, hG, dfl_0, dfl_1, dfl_2, dfl_3, dfl_4, dfl_5, dfl_6, dfl_7, dfl_8, dfl_9, dfl_10, dfl_11, x0, tid]
      · rw [mk_some wr_83_4]
        simp (disch := omega) [uH_kb, uH_ne, nH_ne, nH_k, hG, dfl_0, dfl_1, dfl_2, dfl_3, dfl_4, dfl_5, dfl_6, dfl_7, dfl_8, dfl_9, dfl_10, dfl_11, x0, tid]
      · rw [mk_none wn_83_5]
        simp (disch := omega) [uH_kb, uH_ne, nH_ne, nH_k, hG, dfl_0, dfl_1, dfl_2, dfl_3, dfl_4, dfl_5, dfl_6, dfl_7, dfl_8, dfl_9, dfl_10, dfl_11, x0, tid]
      · rw [mk_some wr_83_6]
        simp (disch := omega) [uH_kb, uH_ne, nH_ne, nH_k, hG, dfl_0, dfl_1, dfl_2, dfl_3, dfl_4, dfl_5, dfl_6, dfl_7, dfl_8, dfl_9, dfl_10, dfl_11, x0, tid]
      · rw [mk_none wn_83_7]
        simp (disch := omega) [uH_kb, uH_ne, nH_ne, nH_k, hG, dfl_0, dfl_1, dfl_2, dfl_3, dfl_4, dfl_5, dfl_6, dfl_7, dfl_8, dfl_9, dfl_10, dfl_11, x0, tid]
      · rw [mk_some wr_83_8]
        simp (disch := omega) [uH_kb, uH_ne, nH_ne, nH_k, hG, dfl_0, dfl_1, dfl_2, dfl_3, dfl_4, dfl_5, dfl_6, dfl_7, dfl_8, dfl_9, dfl_10, dfl_11, x0, tid]
      · rw [mk_none wn_83_9]
        simp (disch := omega) [uH_kb, uH_ne, nH_ne, nH_k, hG, dfl_0, dfl_1, dfl_2, dfl_3, dfl_4, dfl_5, dfl_6, dfl_7, dfl_8, dfl_9, dfl_10, dfl_11, x0, tid]
      · rw [mk_some wr_83_10]
        simp (disch := omega) [uH_kb, uH_ne, nH_ne, nH_k, hG, dfl_0, dfl_1, dfl_2, dfl_3, dfl_4, dfl_5, dfl_6, dfl_7, dfl_8, dfl_9, dfl_10, dfl_11, x0, tid]
      · rw [mk_none wn_83_11]
        simp (disch := omega) [uH_kb, uH_ne, nH_ne, nH_k, hG, dfl_0, dfl_1, dfl_2, dfl_3, dfl_4, dfl_5, dfl_6, dfl_7, dfl_8, dfl_9, dfl_10, dfl_11, x0, tid]
      · rw [mk_none wn_83_12]
        simp (disch := omega) [uH_kb, uH_ne, nH_ne, nH_k, hG, dfl_0, dfl_1, dfl_2, dfl_3, dfl_4, dfl_5, dfl_6, dfl_7, dfl_8, dfl_9, dfl_10, dfl_11, x0, tid]
      · rw [mk_some wr_83_13]
        simp (disch := omega) [uH_kb, uH_ne, nH_ne, nH_k, hG, dfl_0, dfl_1, dfl_2, dfl_3, dfl_4, dfl_5, dfl_6, dfl_7, dfl_8, dfl_9, dfl_10, dfl_11, x0, tid]
      · rw [mk_none wn_83_14]
        simp (disch := omega) [uH_kb, uH_ne, nH_ne, nH_k, hG, dfl_0, dfl_1, dfl_2, dfl_3, dfl_4, dfl_5, dfl_6, dfl_7, dfl_8, dfl_9, dfl_10, dfl_11, x0, tid]
      · rw [mk_some wr_83_15]
        simp (disch := omega) [uH_kb, uH_ne, nH_ne, nH_k, hG, dfl_0, dfl_1, dfl_2, dfl_3, dfl_4, dfl_5, dfl_6, dfl_7, dfl_8, dfl_9, dfl_10, dfl_11, x0, tid]
      · rw [mk_none wn_83_16]
        simp (disch := omega) [uH_kb, uH_ne, nH_ne, nH_k, hG, dfl_0, dfl_1, dfl_2, dfl_3, dfl_4, dfl_5, dfl_6, dfl_7, dfl_8, dfl_9, dfl_10, dfl_11, x0, tid]
      · rw [mk_some wr_83_17]
        simp (disch := omega) [uH_kb, uH_ne, nH_ne, nH_k, hG, dfl_0, dfl_1, dfl_2, dfl_3, dfl_4, dfl_5, dfl_6, dfl_7, dfl_8, dfl_9, dfl_10, dfl_11, x0, tid]
      · rw [mk_none wn_83_18]
        simp (disch := omega) [uH_kb, uH_ne, nH_ne, nH_k, hG, dfl_0, dfl_1, dfl_2, dfl_3, dfl_4, dfl_5, dfl_6, dfl_7, dfl_8, dfl_9, dfl_10, dfl_11, x0, tid]
      · rw [mk_some wr_83_19]
        simp (disch := omega) [uH_kb, uH_ne, nH_ne, nH_k, hG, dfl_0, dfl_1, dfl_2, dfl_3, dfl_4, dfl_5, dfl_6, dfl_7, dfl_8, dfl_9, dfl_10, dfl_11, x0, tid]
      · rw [mk_none wn_83_20]
        simp (disch := omega) [uH_kb, uH_ne, nH_ne, nH_k, hG, dfl_0, dfl_1, dfl_2, dfl_3, dfl_4, dfl_5, dfl_6, dfl_7, dfl_8, dfl_9, dfl_10, dfl_11, x0, tid]
      · rw [mk_none wn_83_21]
        simp (disch := omega) [uH_kb, uH_ne, nH_ne, nH_k, hG, dfl_0, dfl_1, dfl_2, dfl_3, dfl_4, dfl_5, dfl_6, dfl_7, dfl_8, dfl_9, dfl_10, dfl_11, x0, tid]
      · rw [mk_none wn_83_22]
        simp (disch := omega) [uH_kb, uH_ne, nH_ne, nH_k, hG, dfl_0, dfl_1, dfl_2, dfl_3, dfl_4, dfl_5, dfl_6, dfl_7, dfl_8, dfl_9, dfl_10, dfl_11, x0, tid]
      · rw [mk_none wn_83_23]
        simp (disch := omega) [uH_kb, uH_ne, nH_ne, nH_k, hG, dfl_0, dfl_1, dfl_2, dfl_3, dfl_4, dfl_5, dfl_6, dfl_7, dfl_8, dfl_9, dfl_10, dfl_11, x0, tid]
      · rw [mk_none wn_83_24]
        simp (disch := omega) [uH_kb, uH_ne, nH_ne, nH_k, hG, dfl_0, dfl_1, dfl_2, dfl_3, dfl_4, dfl_5, dfl_6, dfl_7, dfl_8, dfl_9, dfl_10, dfl_11, x0, tid]
      · rw [mk_some wr_83_25]
        simp (disch := omega) [uH_kb, uH_ne, nH_ne, nH_k, hG, dfl_0, dfl_1, dfl_2, dfl_3, dfl_4, dfl_5, dfl_6, dfl_7, dfl_8, dfl_9, dfl_10, dfl_11, x0, tid]
      · rw [mk_some wr_83_26]
        simp (disch := omega) [uH_kb, uH_ne, nH_ne, nH_k, hG, dfl_0, dfl_1, dfl_2, dfl_3, dfl_4, dfl_5, dfl_6, dfl_7, dfl_8, dfl_9, dfl_10, dfl_11, x0, tid]
      · rw [mk_none wn_83_27]
        simp (disch := omega) [uH_kb, uH_ne, nH_ne, nH_k, hG, dfl_0, dfl_1, dfl_2, dfl_3, dfl_4, dfl_5, dfl_6, dfl_7, dfl_8, dfl_9, dfl_10, dfl_11, x0, tid]
      · rw [mk_some wr_83_28]
        simp (disch := omega) [uH_kb, uH_ne, nH_ne, nH_k, hG, dfl_0, dfl_1, dfl_2, dfl_3, dfl_4, dfl_5, dfl_6, dfl_7, dfl_8, dfl_9, dfl_10, dfl_11, x0, tid]
      · rw [mk_some wr_83_29]
        simp (disch := omega) [uH_kb, uH_ne, nH_ne, nH_k, hG, dfl_0, dfl_1, dfl_2, dfl_3, dfl_4, dfl_5, dfl_6, dfl_7, dfl_8, dfl_9, dfl_10, dfl_11, x0, tid]
      · rw [mk_some wr_83_30]
        simp (disch := omega) [uH_kb, uH_ne, nH_ne, nH_k, hG, dfl_0, dfl_1, dfl_2, dfl_3, dfl_4, dfl_5, dfl_6, dfl_7, dfl_8, dfl_9, dfl_10, dfl_11, x0, tid]
      · rw [mk_none wn_83_31]
        simp (disch := omega) [uH_kb, uH_ne, nH_ne, nH_k, hG, dfl_0, dfl_1, dfl_2, dfl_3, dfl_4, dfl_5, dfl_6, dfl_7, dfl_8, dfl_9, dfl_10, dfl_11, x0, tid]
      · rw [mk_some wr_83_32]
        simp (disch := omega) [uH_kb, uH_ne, nH_ne, nH_k, hG, dfl_0, dfl_1, dfl_2, dfl_3, dfl_4, dfl_5, dfl_6, dfl_7, dfl_8, dfl_9, dfl_10, dfl_11, x0, tid]
      · rw [mk_none wn_83_33]
        simp (disch := omega) [uH_kb, uH_ne, nH_ne, nH_k, hG, dfl_0, dfl_1, dfl_2, dfl_3, dfl_4, dfl_5, dfl_6, dfl_7, dfl_8, dfl_9, dfl_10, dfl_11, x0, tid]
      · rw [mk_some wr_83_34]
        simp (disch := omega) [uH_kb, uH_ne, nH_ne, nH_k, hG, dfl_0, dfl_1, dfl_2, dfl_3, dfl_4, dfl_5, dfl_6, dfl_7, dfl_8, dfl_9, dfl_10, dfl_11, x0, tid]
      · rw [mk_some wr_83_35]
        simp (disch := omega) [uH_kb, uH_ne, nH_ne, nH_k, hG, dfl_0, dfl_1, dfl_2, dfl_3, dfl_4, dfl_5, dfl_6, dfl_7, dfl_8, dfl_9, dfl_10, dfl_11, x0, tid]
      · rw [mk_some wr_83_36]
        simp (disch := omega) [uH_kb, uH_ne, nH_ne, nH_k, hG, dfl_0, dfl_1, dfl_2, dfl_3, dfl_4, dfl_5, dfl_6, dfl_7, dfl_8, dfl_9, dfl_10, dfl_11, x0, tid]
      · rw [mk_some wr_83_37]
        simp (disch := omega) [uH_kb, uH_ne, nH_ne, nH_k, hG, dfl_0, dfl_1, dfl_2, dfl_3, dfl_4, dfl_5, dfl_6, dfl_7, dfl_8, dfl_9, dfl_10, dfl_11, x0, tid]
      · rw [mk_none wn_83_38]
        simp (disch := omega) [uH_kb, uH_ne, nH_ne, nH_k, hG, dfl_0, dfl_1, dfl_2, dfl_3, dfl_4, dfl_5, dfl_6, dfl_7, dfl_8, dfl_9, dfl_10, dfl_11, x0, tid]
    · refine Dn.app (b := 85) ?_ ?_
      · exact Dn.arr ly_84 (by decide) (by decide) (by decide) (by simp (disch := omega) only [uH_ne, nH_ne, nH_k])
      · refine Dn.app (b := 86) ?_ ?_
        · exact Dn.arr ly_85 (by decide) (by decide) (by decide) (by simp (disch := omega) only [uH_ne, nH_ne, nH_k])
        · refine Dn.app (b := 87) ?_ ?_
          · exact Dn.arr ly_86 (by decide) (by decide) (by decide) (by simp (disch := omega) only [uH_ne, nH_ne, nH_k])
          · refine Dn.app (b := 88) ?_ ?_
            · exact Dn.arr ly_87 (by decide) (by decide) (by decide) (by simp (disch := omega) only [uH_ne, nH_ne, nH_k])
            · refine Dn.app (b := 89) ?_ ?_
              · exact Dn.arr ly_88 (by decide) (by decide) (by decide) (by simp (disch := omega) only [uH_ne, nH_ne, nH_k])
              · refine Dn.app (b := 90) ?_ ?_
                · exact Dn.arr ly_89 (by decide) (by decide) (by decide) (by simp (disch := omega) only [uH_ne, nH_ne, nH_k])
                · refine Dn.app (b := 91) ?_ ?_
                  · exact Dn.arr ly_90 (by decide) (by decide) (by decide) (by simp (disch := omega) only [uH_ne, nH_ne, nH_k])
                  · refine Dn.app (b := 92) ?_ ?_
                    · exact Dn.arr ly_91 (by decide) (by decide) (by decide) (by simp (disch := omega) only [uH_ne, nH_ne, nH_k])
                    · refine Dn.app (b := 93) ?_ ?_
                      · exact Dn.arr ly_92 (by decide) (by decide) (by decide) (by simp (disch := omega) only [uH_ne, nH_ne, nH_k])
                      · refine Dn.app (b := 94) ?_ ?_
                        · exact Dn.arr ly_93 (by decide) (by decide) (by decide) (by simp (disch := omega) only [uH_ne, nH_ne, nH_k])
                        · refine Dn.app (b := 95) ?_ ?_
                          · exact Dn.arr ly_94 (by decide) (by decide) (by decide) (by simp (disch := omega) only [uH_ne, nH_ne, nH_k])
                          · refine Dn.app (b := 96) ?_ ?_
                            · exact Dn.arr ly_95 (by decide) (by decide) (by decide) (by simp (disch := omega) only [uH_ne, nH_ne, nH_k])
                            · refine Dn.app (b := 97) ?_ ?_
                              · exact Dn.arr ly_96 (by decide) (by decide) (by decide) (by simp (disch := omega) only [uH_ne, nH_ne, nH_k])
                              · refine Dn.app (b := 98) ?_ ?_
                                · exact Dn.arr ly_97 (by decide) (by decide) (by decide) (by simp (disch := omega) only [uH_ne, nH_ne, nH_k])
                                · refine Dn.app (b := 99) ?_ ?_
                                  · exact Dn.arr ly_98 (by decide) (by decide) (by decide) (by simp (disch := omega) only [uH_ne, nH_ne, nH_k])
                                  · refine Dn.app (b := 100) ?_ ?_
                                    · exact Dn.arr ly_99 (by decide) (by decide) (by decide) (by simp (disch := omega) only [uH_ne, nH_ne, nH_k])
                                    · refine Dn.app (b := 101) ?_ ?_
                                      · exact Dn.arr ly_100 (by decide) (by decide) (by decide) (by simp (disch := omega) only [uH_ne, nH_ne, nH_k])
                                      · refine Dn.app (b := 102) ?_ ?_
                                        · exact Dn.arr ly_101 (by decide) (by decide) (by decide) (by simp (disch := omega) only [uH_ne, nH_ne, nH_k])
                                        · exact Dn.arr ly_102 (by decide) (by decide) (by decide) (by simp (disch := omega) only [uH_ne, nH_ne, nH_k])
