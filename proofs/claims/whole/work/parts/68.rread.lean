/-! ===== the reference reads a telling ===== -/
def MS (s y0 : XM) (k1 b kk p m : Nat) (y : XM) : Prop := Rt s y (sq s kk p m).1 (sq s kk p m).2 ∧ (∀ k, k ≠ 83 → k ≠ k1 → y k = y0 k) ∧ (∀ j, j ≠ 22 → j ≠ 23 → j ≠ 24 → y 83 j = y0 83 j) ∧ ∀ j, y k1 j = if b ≤ j ∧ j < b + m then vq s kk p (j - b) else y0 k1 j
theorem MS.tm {s y0 y : XM} {k1 b kk p m : Nat} (h : MS s y0 k1 b kk p m y) (hk1 : 89 ≤ k1) (t : Tm s y0) : Tm s y := ⟨by rw [h.2.2.1 1 (by decide) (by decide) (by decide)]; exact t.1, fun j hj => by rw [h.2.1 84 (by decide) (by omega)]; exact t.2 j hj⟩
theorem ms_0 {s y0 : XM} {k1 b kk p : Nat} (h : Rt s y0 0 p) : MS s y0 k1 b kk p 0 y0 := ⟨h, fun _ _ _ => rfl, fun _ _ _ _ => rfl, fun j => by rw [if_neg (by omega)]⟩
theorem ms_step {s y0 y : XM} {k1 b kk p m : Nat} {lo hi : Int} {q : Int → XM → Prop} (k : Ok s) (hk1 : 89 ≤ k1) (hp : p ≤ nX s) (ht : Tm s y0) (h : MS s y0 k1 b kk p m y) (hlo : sI 3 (kk * 4 + m) = lo) (hhi : sI 4 (kk * 4 + m) = hi) (hq : ∀ v x2, MS s y0 k1 b kk p (m + 1) (uX x2 k1 (b + m) v) → (∀ j, j ≠ 22 → j ≠ 23 → j ≠ 24 → x2 83 j = y0 83 j) → q v x2) : M_X11_number y lo hi q := by
  have hb := sq_b (k := kk) hp m
  subst hlo
  subst hhi
  refine r_number k hb.2 (h.tm hk1 ht) h.1 fun z rv rt => ?_
  have f83 : ∀ j, j ≠ 22 → j ≠ 23 → j ≠ 24 → z 83 j = y0 83 j := fun j h1 h2 h3 => by rw [rv.2 j h1 h2 h3]; exact h.2.2.1 j h1 h2 h3
  refine hq _ z ⟨?_, fun k h1 h2 => by rw [uX_k h2, rv.1 k h1]; exact h.2.1 k h1 h2, fun j h1 h2 h3 => by rw [uX_k (by omega)]; exact f83 j h1 h2 h3, fun j => ?_⟩ f83
  · have e : uX z k1 (b + m) (nuV s (sI 3 (kk * 4 + m)) (sI 4 (kk * 4 + m)) (sq s kk p m).1 (sq s kk p m).2) 83 = z 83 := uX_k (by omega)
    unfold Rt
    rw [e]
    exact rt
  · rw [uX_at, rv.1 k1 (by omega), h.2.2.2 j]
    by_cases c : j = b + m
    · rw [if_pos c, if_pos (by omega), show j - b = m by omega]
      rfl
    · rw [if_neg c]
      by_cases d : b ≤ j ∧ j < b + m
      · rw [if_pos d, if_pos (by omega)]
      · rw [if_neg d, if_neg (by omega)]
theorem r_marks {s y : XM} {k1 kk i p : Nat} {q : XM → Prop} (k : Ok s) (hk : (k1 = 89 ∧ kk = 1 ∧ i < 12) ∨ (k1 = 91 ∧ kk = 3 ∧ i < 5)) (hp : p ≤ nX s) (ht : Tm s y) (h0 : Rt s y 0 p) (hq : ∀ z, MS s y k1 (4 * i) kk p 4 z → q z) : M_X11_readMarks k1 y (i : Int) q := by
  have l89 : (lay 89).2 = 48 := by decide
  have l91 : (lay 91).2 = 20 := by decide
  have hl : ((4 * i + 4 : Nat) : Int) ≤ (((lay k1).2 : Nat) : Int) := by
    rcases hk with ⟨e, _, h⟩ | ⟨e, _, h⟩
    · rw [e, l89]; omega
    · rw [e, l91]; omega
  have r0 : sI 3 (kk * 4 + 0) = 0 ∧ sI 4 (kk * 4 + 0) = 4 ∧ sI 3 (kk * 4 + 1) = 1 ∧ sI 4 (kk * 4 + 1) = 9 ∧ sI 3 (kk * 4 + 2) = 0 ∧ sI 4 (kk * 4 + 2) = 5 ∧ sI 3 (kk * 4 + 3) = 0 ∧ sI 4 (kk * 4 + 3) = 1 := by
    rcases hk with ⟨_, e, h⟩ | ⟨_, e, h⟩
    · rw [e]; decide
    · rw [e]; decide
  have hk1 : 89 ≤ k1 := by omega
  unfold M_X11_readMarks
  refine ms_step (b := 4 * i) k hk1 hp ht (ms_0 h0) r0.1 r0.2.1 fun v1 x1 m1 _ => ⟨⟨by omega, by omega⟩, fun w1 e1 => ?_⟩
  rw [show (4 * (i : Int)).toNat = 4 * i + 0 by omega] at e1
  rw [← e1] at m1
  refine ms_step k hk1 hp ht m1 r0.2.2.1 r0.2.2.2.1 fun v2 x2 m2 _ => ⟨⟨by omega, by omega⟩, fun w2 e2 => ?_⟩
  rw [show (4 * (i : Int) + 1).toNat = 4 * i + 1 by omega] at e2
  rw [← e2] at m2
  refine ms_step k hk1 hp ht m2 r0.2.2.2.2.1 r0.2.2.2.2.2.1 fun v3 x3 m3 _ => ⟨⟨by omega, by omega⟩, fun w3 e3 => ?_⟩
  rw [show (4 * (i : Int) + 2).toNat = 4 * i + 2 by omega] at e3
  rw [← e3] at m3
  refine ms_step k hk1 hp ht m3 r0.2.2.2.2.2.2.1 r0.2.2.2.2.2.2.2 fun v4 x4 m4 _ => ⟨⟨by omega, by omega⟩, fun w4 e4 => ?_⟩
  rw [show (4 * (i : Int) + 3).toNat = 4 * i + 3 by omega] at e4
  rw [← e4] at m4
  exact hq w4 m4
/-- the drafts hold what was read -/
def Ag (y : XM) (C : Nat → Nat) (D : Nat → Int) : Prop := y 83 12 = (C 1 : Int) ∧ y 83 14 = (C 2 : Int) ∧ y 83 16 = (C 3 : Int) ∧ y 83 18 = (C 4 : Int) ∧ (∀ j, j < 4 * C 1 → y 89 j = D (4 + j)) ∧ (∀ j, j < 4 * C 2 → y 90 j = D (52 + j)) ∧ (∀ j, j < 4 * C 3 → y 91 j = D (76 + j)) ∧ (∀ j, j < C 4 → y 92 j = D (96 + 4 * j)) ∧ y 83 11 = if C 0 = 0 then 0 else D 0
def Rq (x y : XM) : Prop := (∀ k, k ≠ 83 → ¬ (89 ≤ k ∧ k < 93) → y k = x k) ∧ ∀ j, ¬ (j = 11 ∨ j = 12 ∨ j = 14 ∨ j = 16 ∨ j = 18 ∨ j = 22 ∨ j = 23 ∨ j = 24) → y 83 j = x 83 j
theorem Rq.tr {x y z : XM} (h : Rq x y) (h' : Rq y z) : Rq x z := ⟨fun k h1 h2 => by rw [h'.1 k h1 h2, h.1 k h1 h2], fun j hj => by rw [h'.2 j hj, h.2 j hj]⟩
theorem Rv.rq {y z : XM} (h : Rv y z) : Rq y z := ⟨fun k h1 _ => h.1 k h1, fun j hj => h.2 j (by omega) (by omega) (by omega)⟩
theorem Rq.tm {s y z : XM} (h : Rq y z) (t : Tm s y) : Tm s z := ⟨by rw [h.2 1 (by decide)]; exact t.1, fun j hj => by rw [h.1 84 (by decide) (by decide)]; exact t.2 j hj⟩
theorem Rq.rf {y : XM} : Rq y y := ⟨fun _ _ _ => rfl, fun _ _ => rfl⟩
/-- a clause's numbers are read: its end -/
theorem ms_end {s y0 y w : XM} {k1 b kk p fl : Nat} {v : Int} {q : XM → Prop} (k : Ok s) (hk1 : 89 ≤ k1) (hp : p ≤ nX s) (ht : Tm s y0) (h : MS s y0 k1 b kk p (tnk kk) y) (hfl : fl ≠ 22 ∧ fl ≠ 23 ∧ fl ≠ 24 ∧ fl ≠ 1) (hw : w = uX y 83 fl v) (hq : ∀ z, (∀ k, k ≠ 83 → k ≠ k1 → z k = y0 k) → (∀ j, j ≠ 22 → j ≠ 23 → j ≠ 24 → j ≠ fl → z 83 j = y0 83 j) → z 83 fl = v → (∀ j, z k1 j = if b ≤ j ∧ j < b + tnk kk then vq s kk p (j - b) else y0 k1 j) → Rt s z (cC s kk p) (cP s kk p) → q z) : M_X11_end w q := by
  have hb := sq_b (k := kk) hp (tnk kk)
  have ty := h.tm hk1 ht
  refine r_endm k hb.2 ⟨by rw [hw, uX_j (by omega)]; exact ty.1, fun j hj => by rw [hw, uX_k (by decide)]; exact ty.2 j hj⟩ (c := (sq s kk p (tnk kk)).1) ?_ fun z rv rt => ?_
  · have r := h.1
    unfold Rt at r ⊢
    rw [hw, uX_j (by omega), uX_j (by omega), uX_j (by omega)]
    exact r
  · refine hq z (fun k h1 h2 => by rw [rv.1 k h1, hw, uX_k h1]; exact h.2.1 k h1 h2) (fun j h1 h2 h3 h4 => by rw [rv.2 j h1 h2 h3, hw, uX_j h4]; exact h.2.2.1 j h1 h2 h3) (by rw [rv.2 fl hfl.1 hfl.2.1 hfl.2.2.1, hw, uX_eq]) (fun j => by rw [rv.1 k1 (by omega), hw, uX_k (by omega)]; exact h.2.2.2 j) rt
theorem ag_1 {y z : XM} {C : Nat → Nat} {D v : Nat → Int} (h : Ag y C D) (hC : C 1 < 12) (hk : ∀ k, k ≠ 83 → k ≠ 89 → z k = y k) (hf : ∀ j, j ≠ 22 → j ≠ 23 → j ≠ 24 → j ≠ 12 → z 83 j = y 83 j) (h1 : z 83 12 = (C 1 : Int) + 1) (hv : ∀ j, z 89 j = if 4 * C 1 ≤ j ∧ j < 4 * C 1 + 4 then v (j - 4 * C 1) else y 89 j) : Ag z (upC C 1) (upD D (4 * (1 + C 1)) 4 v) := by
  obtain ⟨a1, a2, a3, a4, a5, a6, a7, a8, a9⟩ := h
  refine ⟨h1, by rw [hf 14 (by decide) (by decide) (by decide) (by decide)]; exact a2, by rw [hf 16 (by decide) (by decide) (by decide) (by decide)]; exact a3, by rw [hf 18 (by decide) (by decide) (by decide) (by decide)]; exact a4, fun (j : Nat) (hj : j < 4 * (C 1 + 1)) => ?_, fun (j : Nat) (hj : j < 4 * C 2) => ?_, fun (j : Nat) (hj : j < 4 * C 3) => ?_, fun (j : Nat) (hj : j < C 4) => ?_, ?_⟩
  · rw [hv j]
    unfold upD
    by_cases c : 4 * C 1 ≤ j ∧ j < 4 * C 1 + 4
    · rw [if_pos c, if_pos (by omega), show 4 + j - 4 * (1 + C 1) = j - 4 * C 1 by omega]
    · rw [if_neg c, if_neg (by omega)]; exact a5 j (by omega)
  · unfold upD
    rw [if_neg (by omega), hk 90 (by decide) (by decide)]; exact a6 j hj
  · unfold upD
    rw [if_neg (by omega), hk 91 (by decide) (by decide)]; exact a7 j hj
  · unfold upD
    rw [if_neg (by omega), hk 92 (by decide) (by decide)]; exact a8 j hj
  · rw [hf 11 (by decide) (by decide) (by decide) (by decide), a9]
    show _ = if C 0 = 0 then 0 else (if 4 * (1 + C 1) ≤ 0 ∧ 0 < 4 * (1 + C 1) + 4 then v (0 - 4 * (1 + C 1)) else D 0)
    rw [if_neg (show ¬ (4 * (1 + C 1) ≤ 0 ∧ 0 < 4 * (1 + C 1) + 4) by omega)]
theorem ag_2 {y z : XM} {C : Nat → Nat} {D v : Nat → Int} (h : Ag y C D) (hC1 : C 1 ≤ 12) (hC : C 2 < 6) (hk : ∀ k, k ≠ 83 → k ≠ 90 → z k = y k) (hf : ∀ j, j ≠ 22 → j ≠ 23 → j ≠ 24 → j ≠ 14 → z 83 j = y 83 j) (h1 : z 83 14 = (C 2 : Int) + 1) (hv : ∀ j, z 90 j = if 4 * C 2 ≤ j ∧ j < 4 * C 2 + 4 then v (j - 4 * C 2) else y 90 j) : Ag z (upC C 2) (upD D (4 * (13 + C 2)) 4 v) := by
  obtain ⟨a1, a2, a3, a4, a5, a6, a7, a8, a9⟩ := h
  refine ⟨by rw [hf 12 (by decide) (by decide) (by decide) (by decide)]; exact a1, h1, by rw [hf 16 (by decide) (by decide) (by decide) (by decide)]; exact a3, by rw [hf 18 (by decide) (by decide) (by decide) (by decide)]; exact a4, fun (j : Nat) (hj : j < 4 * C 1) => ?_, fun (j : Nat) (hj : j < 4 * (C 2 + 1)) => ?_, fun (j : Nat) (hj : j < 4 * C 3) => ?_, fun (j : Nat) (hj : j < C 4) => ?_, ?_⟩
  · unfold upD
    rw [if_neg (by omega), hk 89 (by decide) (by decide)]; exact a5 j hj
  · rw [hv j]
    unfold upD
    by_cases c : 4 * C 2 ≤ j ∧ j < 4 * C 2 + 4
    · rw [if_pos c, if_pos (by omega), show 52 + j - 4 * (13 + C 2) = j - 4 * C 2 by omega]
    · rw [if_neg c, if_neg (by omega)]; exact a6 j (by omega)
  · unfold upD
    rw [if_neg (by omega), hk 91 (by decide) (by decide)]; exact a7 j hj
  · unfold upD
    rw [if_neg (by omega), hk 92 (by decide) (by decide)]; exact a8 j hj
  · rw [hf 11 (by decide) (by decide) (by decide) (by decide), a9]
    show _ = if C 0 = 0 then 0 else (if 4 * (13 + C 2) ≤ 0 ∧ 0 < 4 * (13 + C 2) + 4 then v (0 - 4 * (13 + C 2)) else D 0)
    rw [if_neg (show ¬ (4 * (13 + C 2) ≤ 0 ∧ 0 < 4 * (13 + C 2) + 4) by omega)]
theorem ag_3 {y z : XM} {C : Nat → Nat} {D v : Nat → Int} (h : Ag y C D) (hC1 : C 1 ≤ 12) (hC2 : C 2 ≤ 6) (hC : C 3 < 5) (hk : ∀ k, k ≠ 83 → k ≠ 91 → z k = y k) (hf : ∀ j, j ≠ 22 → j ≠ 23 → j ≠ 24 → j ≠ 16 → z 83 j = y 83 j) (h1 : z 83 16 = (C 3 : Int) + 1) (hv : ∀ j, z 91 j = if 4 * C 3 ≤ j ∧ j < 4 * C 3 + 4 then v (j - 4 * C 3) else y 91 j) : Ag z (upC C 3) (upD D (4 * (19 + C 3)) 4 v) := by
  obtain ⟨a1, a2, a3, a4, a5, a6, a7, a8, a9⟩ := h
  refine ⟨by rw [hf 12 (by decide) (by decide) (by decide) (by decide)]; exact a1, by rw [hf 14 (by decide) (by decide) (by decide) (by decide)]; exact a2, h1, by rw [hf 18 (by decide) (by decide) (by decide) (by decide)]; exact a4, fun (j : Nat) (hj : j < 4 * C 1) => ?_, fun (j : Nat) (hj : j < 4 * C 2) => ?_, fun (j : Nat) (hj : j < 4 * (C 3 + 1)) => ?_, fun (j : Nat) (hj : j < C 4) => ?_, ?_⟩
  · unfold upD
    rw [if_neg (by omega), hk 89 (by decide) (by decide)]; exact a5 j hj
  · unfold upD
    rw [if_neg (by omega), hk 90 (by decide) (by decide)]; exact a6 j hj
  · rw [hv j]
    unfold upD
    by_cases c : 4 * C 3 ≤ j ∧ j < 4 * C 3 + 4
    · rw [if_pos c, if_pos (by omega), show 76 + j - 4 * (19 + C 3) = j - 4 * C 3 by omega]
    · rw [if_neg c, if_neg (by omega)]; exact a7 j (by omega)
  · unfold upD
    rw [if_neg (by omega), hk 92 (by decide) (by decide)]; exact a8 j hj
  · rw [hf 11 (by decide) (by decide) (by decide) (by decide), a9]
    show _ = if C 0 = 0 then 0 else (if 4 * (19 + C 3) ≤ 0 ∧ 0 < 4 * (19 + C 3) + 4 then v (0 - 4 * (19 + C 3)) else D 0)
    rw [if_neg (show ¬ (4 * (19 + C 3) ≤ 0 ∧ 0 < 4 * (19 + C 3) + 4) by omega)]
theorem ag_4 {y z : XM} {C : Nat → Nat} {D v : Nat → Int} (h : Ag y C D) (hC1 : C 1 ≤ 12) (hC2 : C 2 ≤ 6) (hC3 : C 3 ≤ 5) (hC : C 4 < 5) (hk : ∀ k, k ≠ 83 → k ≠ 92 → z k = y k) (hf : ∀ j, j ≠ 22 → j ≠ 23 → j ≠ 24 → j ≠ 18 → z 83 j = y 83 j) (h1 : z 83 18 = (C 4 : Int) + 1) (hv : ∀ j, z 92 j = if C 4 ≤ j ∧ j < C 4 + 1 then v (j - C 4) else y 92 j) : Ag z (upC C 4) (upD D (4 * (24 + C 4)) 1 v) := by
  obtain ⟨a1, a2, a3, a4, a5, a6, a7, a8, a9⟩ := h
  refine ⟨by rw [hf 12 (by decide) (by decide) (by decide) (by decide)]; exact a1, by rw [hf 14 (by decide) (by decide) (by decide) (by decide)]; exact a2, by rw [hf 16 (by decide) (by decide) (by decide) (by decide)]; exact a3, h1, fun (j : Nat) (hj : j < 4 * C 1) => ?_, fun (j : Nat) (hj : j < 4 * C 2) => ?_, fun (j : Nat) (hj : j < 4 * C 3) => ?_, fun (j : Nat) (hj : j < C 4 + 1) => ?_, ?_⟩
  · unfold upD
    rw [if_neg (by omega), hk 89 (by decide) (by decide)]; exact a5 j hj
  · unfold upD
    rw [if_neg (by omega), hk 90 (by decide) (by decide)]; exact a6 j hj
  · unfold upD
    rw [if_neg (by omega), hk 91 (by decide) (by decide)]; exact a7 j hj
  · rw [hv j]
    unfold upD
    by_cases c : C 4 ≤ j ∧ j < C 4 + 1
    · rw [if_pos c, if_pos (by omega), show 96 + 4 * j - 4 * (24 + C 4) = j - C 4 by omega]
    · rw [if_neg c, if_neg (by omega)]; exact a8 j (by omega)
  · rw [hf 11 (by decide) (by decide) (by decide) (by decide), a9]
    show _ = if C 0 = 0 then 0 else (if 4 * (24 + C 4) ≤ 0 ∧ 0 < 4 * (24 + C 4) + 1 then v (0 - 4 * (24 + C 4)) else D 0)
    rw [if_neg (show ¬ (4 * (24 + C 4) ≤ 0 ∧ 0 < 4 * (24 + C 4) + 1) by omega)]
