/-! ===== the views, cell by cell ===== -/
def cS0 (x : XM) (j : Nat) : Int := match j with | 0 => x (tid (x 3 1) + 1) 1 | 1 => x (tid (x 3 1) + 1) 2 | 2 => x (tid (x 3 1) + 1) 3 | 3 => x (tid (x 3 1) + 1) 4 | 4 => if x (tid (x 3 1) + 1) 0 = 0 then 0 else x (tid (x 3 1) + 2) 0 | 5 => x (tid (x 3 1) + 1) 0 | 6 => x 1 1 | 7 => x 0 9 | 8 => x 10 2 | 9 => x 60 2 | 10 => x 63 0 | 11 => x 75 2 | 12 => x 79 2 | _ => 0
theorem cS_0 {x : XM} {j : Nat} : cS x 0 j = cS0 x j := rfl
theorem cS_1 {x : XM} {j : Nat} : cS x 1 j = if (j : Int) < 4 * x (tid (x 3 1) + 1) 1 then x (tid (x 3 1) + 2) (4 + j) else 0 := rfl
theorem cS_2 {x : XM} {j : Nat} : cS x 2 j = if (j : Int) < 4 * x (tid (x 3 1) + 1) 2 then x (tid (x 3 1) + 2) (52 + j) else 0 := rfl
theorem cS_3 {x : XM} {j : Nat} : cS x 3 j = if (j : Int) < 4 * x (tid (x 3 1) + 1) 3 then x (tid (x 3 1) + 2) (76 + j) else 0 := rfl
theorem cS_4 {x : XM} {j : Nat} : cS x 4 j = if (j : Int) < x (tid (x 3 1) + 1) 4 then x (tid (x 3 1) + 2) (96 + 4 * j) else 0 := rfl
theorem cS_5 {x : XM} {j : Nat} : cS x 5 j = if j < 31 then msk (x (tid (x 3 1) + 1) 1) (x (tid (x 3 1) + 1) 2) j (snap x 4 j) else 0 := rfl
theorem cS_6 {x : XM} {j : Nat} : cS x 6 j = if (j : Int) < 31 * x 10 2 then msk (x (tid (x 3 1) + 1) 1) (x (tid (x 3 1) + 1) 2) (j % 31) (snap x (ringc x (j / 31)) (j % 31)) else 0 := rfl
theorem cS_7 {x : XM} {j : Nat} : cS x 7 j = if j < 62 ∧ x (75 + 4 * (j / 31)) 2 = 1 then msk (x (tid (x 3 1) + 1) 1) (x (tid (x 3 1) + 1) 2) (j % 31) (snap x (76 + 4 * (j / 31)) (j % 31)) else 0 := rfl
theorem cS_8 {x : XM} {j : Nat} : cS x 8 j = if (j : Int) < x 1 1 then x 2 j else 0 := rfl
theorem cS_9 {x : XM} {j : Nat} : cS x 9 j = if (j : Int) < x 60 2 then x 61 j else 0 := rfl
theorem cS_10 {x : XM} {j : Nat} : cS x 10 j = if (j : Int) < x 60 2 then x 62 j else 0 := rfl
theorem cS_11 {x : XM} {j : Nat} : cS x 11 j = if j < 2 ∧ x (75 + 4 * j) 2 = 1 then x (75 + 4 * j) 1 else 0 := rfl
def rS0 (x : XM) (j : Nat) : Int := match j with | 0 => x 83 3 | 1 => x 83 5 | 2 => x 83 7 | 3 => x 83 9 | 4 => x 83 2 | 5 => x 83 20 | 6 => x 83 1 | 7 => x 83 21 | 8 => x 83 27 | 9 => x 83 38 | 10 => x 83 31 | 11 => x 97 0 | 12 => x 97 1 | _ => 0
theorem rS_0 {x : XM} {j : Nat} : rS x 0 j = rS0 x j := rfl
theorem rS_1 {x : XM} {j : Nat} : rS x 1 j = if (j : Int) < 4 * x 83 3 then x 85 j else 0 := rfl
theorem rS_2 {x : XM} {j : Nat} : rS x 2 j = if (j : Int) < 4 * x 83 5 then x 86 j else 0 := rfl
theorem rS_3 {x : XM} {j : Nat} : rS x 3 j = if (j : Int) < 4 * x 83 7 then x 87 j else 0 := rfl
theorem rS_4 {x : XM} {j : Nat} : rS x 4 j = if (j : Int) < x 83 9 then x 88 j else 0 := rfl
theorem rS_5 {x : XM} {j : Nat} : rS x 5 j = if j < 31 then msk (x 83 3) (x 83 5) j (x 93 j) else 0 := rfl
theorem rS_6 {x : XM} {j : Nat} : rS x 6 j = if (j : Int) < 31 * x 83 27 then msk (x 83 3) (x 83 5) (j % 31) (x 94 j) else 0 := rfl
theorem rS_7 {x : XM} {j : Nat} : rS x 7 j = if j < 62 ∧ x 97 (j / 31) = 1 then msk (x 83 3) (x 83 5) (j % 31) (x 95 j) else 0 := rfl
theorem rS_8 {x : XM} {j : Nat} : rS x 8 j = if (j : Int) < x 83 1 then x 84 j % 256 else 0 := rfl
theorem rS_9 {x : XM} {j : Nat} : rS x 9 j = if (j : Int) < x 83 38 then x 101 j else 0 := rfl
theorem rS_10 {x : XM} {j : Nat} : rS x 10 j = if (j : Int) < x 83 38 then x 102 j else 0 := rfl
theorem rS_11 {x : XM} {j : Nat} : rS x 11 j = if j < 2 ∧ x 97 j = 1 then x 96 j else 0 := rfl
/-! ===== writes: the cloth, the past ===== -/
theorem cS_ext {x t : XM} (h : ∀ k, k < 12 → ∀ j, cS x k j = t k j) (hz : ∀ k, 12 ≤ k → ∀ j, t k j = 0) : cS x = t := by
  funext k j
  rcases Nat.lt_or_ge k 12 with c | c
  · exact h k c j
  · rw [hz k c j]
    obtain ⟨i, rfl⟩ : ∃ i, k = i + 12 := ⟨k - 12, by omega⟩
    rfl
theorem rS_ext {x t : XM} (h : ∀ k, k < 12 → ∀ j, rS x k j = t k j) (hz : ∀ k, 12 ≤ k → ∀ j, t k j = 0) : rS x = t := by
  funext k j
  rcases Nat.lt_or_ge k 12 with c | c
  · exact h k c j
  · rw [hz k c j]
    obtain ⟨i, rfl⟩ : ∃ i, k = i + 12 := ⟨k - 12, by omega⟩
    rfl
theorem CF.z {s x : XM} (h : CF s x) {k j : Nat} (hk : 12 ≤ k) : s k j = 0 := by
  rw [← h.e k j]
  obtain ⟨i, rfl⟩ : ∃ i, k = i + 12 := ⟨k - 12, by omega⟩
  rfl
theorem RF.z {s x : XM} (h : RF s x) {k j : Nat} (hk : 12 ≤ k) : s k j = 0 := by
  rw [← h.e k j]
  obtain ⟨i, rfl⟩ : ∃ i, k = i + 12 := ⟨k - 12, by omega⟩
  rfl
theorem CF.z5 {s x : XM} (h : CF s x) {j : Nat} (hj : 31 ≤ j) : s 5 j = 0 := by
  rw [← h.e 5 j]
  exact if_neg (by omega)
theorem RF.z5 {s x : XM} (h : RF s x) {j : Nat} (hj : 31 ≤ j) : s 5 j = 0 := by
  rw [← h.e 5 j]
  exact if_neg (by omega)
theorem lt12 {P : Nat → Prop} (h0 : P 0) (h1 : P 1) (h2 : P 2) (h3 : P 3) (h4 : P 4) (h5 : P 5) (h6 : P 6) (h7 : P 7) (h8 : P 8) (h9 : P 9) (h10 : P 10) (h11 : P 11) : ∀ k, k < 12 → P k
  | 0, _ => h0 | 1, _ => h1 | 2, _ => h2 | 3, _ => h3 | 4, _ => h4 | 5, _ => h5 | 6, _ => h6 | 7, _ => h7 | 8, _ => h8 | 9, _ => h9 | 10, _ => h10 | 11, _ => h11
  | n + 12, h => by omega
theorem tid_c (c : Int) : tid c = 7 ∨ tid c = 72 := by unfold tid; split <;> simp
theorem lay2 : ∀ k, k < 103 → (lay k).1 = 2 → k = 4 ∨ (12 ≤ k ∧ k < 60 ∧ k % 3 = 0) ∨ k = 76 ∨ k = 80 := by decide +kernel
theorem lay2' {k : Nat} (h : (lay k).1 = 2) : k = 4 ∨ (12 ≤ k ∧ k < 60 ∧ k % 3 = 0) ∨ k = 76 ∨ k = 80 := lay2 k (lt_lay h (by decide)) h
theorem snap_cong {x y : XM} {a b j : Nat} (h1 : ∀ c, c < 12 → y (a + 1) c = x (b + 1) c) (h2 : ∀ c, c < 6 → y (a + 2) c = x (b + 2) c) (h3 : y a 2 = x b 2) (h4 : y a 3 = x b 3) : snap y a j = snap x b j := by
  unfold snap
  rw [h3, h4]
  split
  · rw [h1 _ (by assumption)]
  · split
    · rfl
    · split
      · rw [h2 _ (by omega)]
      · rfl
/-- only the cloth on the table has changed -/
theorem CF.now {s x y t : XM} (h : CF s x) (hy : ∀ k, k ≠ 4 → k ≠ 5 → k ≠ 6 → y k = x k) (hck : CK y 4) (ht : ∀ k j, k ≠ 5 → t k j = s k j) (h5 : ∀ j, j < 31 → msk (s 0 0) (s 0 1) j (snap y 4 j) = t 5 j) (hz : ∀ j, 31 ≤ j → t 5 j = 0) : CF t y := by
  have e3 := hy 3 (by decide) (by decide) (by decide)
  have e10 := hy 10 (by decide) (by decide) (by decide)
  have et1 : y (tid (y 3 1) + 1) = x (tid (x 3 1) + 1) := by rw [e3]; exact hy _ (by rcases tid_c (x 3 1) with e | e <;> omega) (by rcases tid_c (x 3 1) with e | e <;> omega) (by rcases tid_c (x 3 1) with e | e <;> omega)
  have et2 : y (tid (y 3 1) + 2) = x (tid (x 3 1) + 2) := by rw [e3]; exact hy _ (by rcases tid_c (x 3 1) with e | e <;> omega) (by rcases tid_c (x 3 1) with e | e <;> omega) (by rcases tid_c (x 3 1) with e | e <;> omega)
  have hs : ∀ kc j, 7 ≤ kc → snap y kc j = snap x kc j := by
    intro kc j hk
    unfold snap
    rw [hy (kc + 1) (by omega) (by omega) (by omega), hy kc (by omega) (by omega) (by omega), hy (kc + 2) (by omega) (by omega) (by omega)]
  refine ⟨cS_ext (lt12 ?_ ?_ ?_ ?_ ?_ ?_ ?_ ?_ ?_ ?_ ?_ ?_) fun k hk j => by rw [ht k j (by omega), h.z hk], ?_⟩
  all_goals try intro j
  · rw [ht 0 j (by decide), ← h.e 0 j]
    rw [cS_0, cS_0]
    unfold cS0
    rw [et1, et2, hy 1 (by decide) (by decide) (by decide), hy 0 (by decide) (by decide) (by decide), e10, hy 60 (by decide) (by decide) (by decide), hy 63 (by decide) (by decide) (by decide), hy 75 (by decide) (by decide) (by decide), hy 79 (by decide) (by decide) (by decide)]
  · rw [ht 1 j (by decide), ← h.e 1 j]
    rw [cS_1, cS_1]
    rw [et1, et2]
  · rw [ht 2 j (by decide), ← h.e 2 j]
    rw [cS_2, cS_2]
    rw [et1, et2]
  · rw [ht 3 j (by decide), ← h.e 3 j]
    rw [cS_3, cS_3]
    rw [et1, et2]
  · rw [ht 4 j (by decide), ← h.e 4 j]
    rw [cS_4, cS_4]
    rw [et1, et2]
  · rw [cS_5, et1, show x (tid (x 3 1) + 1) 1 = s 0 0 from h.e 0 0, show x (tid (x 3 1) + 1) 2 = s 0 1 from h.e 0 1]
    split
    · exact h5 j (by assumption)
    · exact (hz j (by omega)).symm
  · rw [ht 6 j (by decide), ← h.e 6 j]
    rw [cS_6, cS_6, et1]
    unfold ringc
    rw [e10, hs _ _ (by omega)]
  · rw [ht 7 j (by decide), ← h.e 7 j]
    rw [cS_7, cS_7, et1]
    rw [hy (75 + 4 * (j / 31)) (by omega) (by omega) (by omega), hs _ _ (by omega)]
  · rw [ht 8 j (by decide), ← h.e 8 j]
    show (if (j : Int) < y 1 1 then y 2 j else 0) = (if (j : Int) < x 1 1 then x 2 j else 0)
    rw [hy 1 (by decide) (by decide) (by decide), hy 2 (by decide) (by decide) (by decide)]
  · rw [ht 9 j (by decide), ← h.e 9 j]
    show (if (j : Int) < y 60 2 then y 61 j else 0) = (if (j : Int) < x 60 2 then x 61 j else 0)
    rw [hy 60 (by decide) (by decide) (by decide), hy 61 (by decide) (by decide) (by decide)]
  · rw [ht 10 j (by decide), ← h.e 10 j]
    show (if (j : Int) < y 60 2 then y 62 j else 0) = (if (j : Int) < x 60 2 then x 62 j else 0)
    rw [hy 60 (by decide) (by decide) (by decide), hy 62 (by decide) (by decide) (by decide)]
  · rw [ht 11 j (by decide), ← h.e 11 j]
    show (if j < 2 ∧ y (75 + 4 * j) 2 = 1 then y (75 + 4 * j) 1 else 0) = (if j < 2 ∧ x (75 + 4 * j) 2 = 1 then x (75 + 4 * j) 1 else 0)
    rw [hy (75 + 4 * j) (by omega) (by omega) (by omega)]
  · obtain ⟨h1, h2, h3, h4⟩ := h.2
    refine ⟨by rw [e3, hy 0 (by decide) (by decide) (by decide)]; exact h1, fun kc hk => ?_, by rw [e10]; exact h3, by rw [e10]; exact h4⟩
    by_cases c : kc = 4
    · rw [c]; exact hck
    · have := lay2' hk
      unfold CK
      rw [hy (kc + 1) (by omega) (by omega) (by omega), hy kc (by omega) (by omega) (by omega)]
      exact h2 kc hk
theorem RF.now {s x y t : XM} (h : RF s x) (hy : ∀ k, k ≠ 93 → y k = x k) (ht : ∀ k j, k ≠ 5 → t k j = s k j) (h5 : ∀ j, j < 31 → msk (s 0 0) (s 0 1) j (y 93 j) = t 5 j) (hz : ∀ j, 31 ≤ j → t 5 j = 0) : RF t y := by
  refine ⟨rS_ext (lt12 ?_ ?_ ?_ ?_ ?_ ?_ ?_ ?_ ?_ ?_ ?_ ?_) fun k hk j => by rw [ht k j (by omega), h.z hk], ?_⟩
  all_goals intro j
  · rw [ht 0 j (by decide), ← h.e 0 j]
    rw [rS_0, rS_0]
    unfold rS0
    rw [hy 83 (by decide), hy 97 (by decide)]
  · rw [ht 1 j (by decide), ← h.e 1 j]
    rw [rS_1, rS_1]
    rw [hy 83 (by decide), hy 85 (by decide)]
  · rw [ht 2 j (by decide), ← h.e 2 j]
    rw [rS_2, rS_2]
    rw [hy 83 (by decide), hy 86 (by decide)]
  · rw [ht 3 j (by decide), ← h.e 3 j]
    rw [rS_3, rS_3]
    rw [hy 83 (by decide), hy 87 (by decide)]
  · rw [ht 4 j (by decide), ← h.e 4 j]
    rw [rS_4, rS_4]
    rw [hy 83 (by decide), hy 88 (by decide)]
  · rw [rS_5, hy 83 (by decide), show x 83 3 = s 0 0 from h.e 0 0, show x 83 5 = s 0 1 from h.e 0 1]
    split
    · exact h5 j (by assumption)
    · exact (hz j (by omega)).symm
  · rw [ht 6 j (by decide), ← h.e 6 j]
    rw [rS_6, rS_6]
    rw [hy 83 (by decide), hy 94 (by decide)]
  · rw [ht 7 j (by decide), ← h.e 7 j]
    rw [rS_7, rS_7]
    rw [hy 83 (by decide), hy 97 (by decide), hy 95 (by decide)]
  · rw [ht 8 j (by decide), ← h.e 8 j]
    rw [rS_8, rS_8]
    rw [hy 83 (by decide), hy 84 (by decide)]
  · rw [ht 9 j (by decide), ← h.e 9 j]
    rw [rS_9, rS_9]
    rw [hy 83 (by decide), hy 101 (by decide)]
  · rw [ht 10 j (by decide), ← h.e 10 j]
    rw [rS_10, rS_10]
    rw [hy 83 (by decide), hy 102 (by decide)]
  · rw [ht 11 j (by decide), ← h.e 11 j]
    rw [rS_11, rS_11]
    rw [hy 97 (by decide), hy 96 (by decide)]
  · rw [hy 84 (by decide)]
    exact h.2 j
theorem uX_k {x : XM} {k j a : Nat} {z : Int} (h : a ≠ k) : uX x k j z a = x a := by
  funext b
  exact uX_ne fun e => h e.1
theorem uX_j {x : XM} {k j b : Nat} {z : Int} (h : b ≠ j) : uX x k j z k b = x k b := uX_ne fun e => h e.2
theorem RF.set {s x : XM} {j : Nat} {z : Int} (h : RF s x) (hj : j < 31 ∧ (0 < s 0 0 ∨ 0 < s 0 1 ∨ j = 30)) : RF (uX s 5 j z) (uX x 93 j z) := by
  refine h.now (fun k hk => uX_k hk) (fun k i hk => uX_ne fun e => hk e.1) (fun i hi => ?_) fun i hi => by rw [uX_j (by omega), h.z5 hi]
  by_cases c : i = j
  · rw [c, uX_eq, uX_eq, msk_n hj.2]
  · rw [uX_j c, uX_j c, h.m5, if_pos hi]
theorem snap_e {s x : XM} (h : CF s x) {j : Nat} (hj : j < 31) : msk (s 0 0) (s 0 1) j (snap x 4 j) = s 5 j := by
  rw [h.m5, if_pos hj]
theorem CF.set {s x : XM} {b : Nat} {z : Int} (h : CF s x) (hb : b < 12 ∧ (0 < s 0 0 ∨ 0 < s 0 1)) (hz : 0 ≤ z ∧ z ≤ 12) : CF (uX s 5 b (enc z)) (uX x 5 b z) := by
  have hc := h.2.2.1 4 (by decide)
  refine h.now (fun k _ h5 _ => uX_k h5) ?_ (fun k i hk => uX_ne fun e => hk e.1) (fun i hi => ?_) fun i hi => by rw [uX_j (by omega), h.z5 hi]
  · refine ⟨fun c hc2 => ?_, by rw [uX_k (by decide)]; exact hc.2⟩
    by_cases e : c = b
    · rw [e, uX_eq]; exact hz
    · rw [uX_j e]; exact hc.1 c hc2
  · by_cases c : i = b
    · rw [c, uX_eq, msk_n (by omega)]
      unfold snap
      rw [if_pos hb.1, uX_eq]
    · rw [uX_j c, ← snap_e h hi]
      unfold snap
      rw [uX_j c, uX_k (by decide), uX_k (by decide)]
theorem CF.setO {s x : XM} {p : Nat} {z : Int} (h : CF s x) (hp : p < 6 ∧ (0 < s 0 0 ∨ 0 < s 0 1)) : CF (uX s 5 (24 + p) z) (uX x 6 p z) := by
  have hc := h.2.2.1 4 (by decide)
  refine h.now (fun k _ _ h6 => uX_k h6) ?_ (fun k i hk => uX_ne fun e => hk e.1) (fun i hi => ?_) fun i hi => by rw [uX_j (by omega), h.z5 hi]
  · refine ⟨fun c hc2 => ?_, by rw [uX_k (by decide)]; exact hc.2⟩
    rw [uX_k (by decide)]
    exact hc.1 c hc2
  · by_cases c : i = 24 + p
    · rw [c, uX_eq, msk_n (by omega)]
      unfold snap
      rw [if_neg (by omega), if_neg (by omega), if_pos (by omega), Nat.add_sub_cancel_left, uX_eq]
    · rw [uX_j c, ← snap_e h hi]
      refine congrArg (msk (s 0 0) (s 0 1) i) ?_
      unfold snap
      rw [uX_k (by decide), uX_k (by decide)]
      split
      · rfl
      · split
        · rfl
        · split
          · rw [uX_j (by omega)]
          · rfl
theorem CF.setS {s x : XM} {z : Int} (h : CF s x) : CF (uX s 5 30 z) (uX x 4 3 z) := by
  have hc := h.2.2.1 4 (by decide)
  refine h.now (fun k h4 _ _ => uX_k h4) ?_ (fun k i hk => uX_ne fun e => hk e.1) (fun i hi => ?_) fun i hi => by rw [uX_j (by omega), h.z5 hi]
  · refine ⟨fun c hc2 => ?_, by rw [uX_j (by decide)]; exact hc.2⟩
    rw [uX_k (by decide)]
    exact hc.1 c hc2
  · by_cases c : i = 30
    · rw [c, uX_eq, msk_n (by omega)]
      unfold snap
      rw [if_neg (by omega), if_neg (by omega), if_neg (by omega), uX_eq]
    · rw [uX_j c, ← snap_e h hi]
      refine congrArg (msk (s 0 0) (s 0 1) i) ?_
      unfold snap
      rw [uX_k (a := 4 + 1) (by decide), uX_k (a := 4 + 2) (by decide), uX_j (by decide)]
      split
      · rfl
      · split
        · rfl
        · rw [if_pos (by omega), if_pos (by omega)]
/-- the bent set is written anew: a bit comes or goes -/
theorem CF.setB {s x : XM} {b : Nat} {v : Nat} {f : Bool} (h : CF s x) (hb : b < 12 ∧ (0 < s 0 0 ∨ 0 < s 0 1)) (hv : v < 4096) (h1 : v.testBit b = f) (h2 : ∀ c, c < 12 → c ≠ b → v.testBit c = (x 4 2).toNat.testBit c) : CF (uX s 5 (12 + b) (if f then 1 else 0)) (uX x 4 2 (v : Int)) := by
  have hc := h.2.2.1 4 (by decide)
  refine h.now (fun k h4 _ _ => uX_k h4) ?_ (fun k i hk => uX_ne fun e => hk e.1) (fun i hi => ?_) fun i hi => by rw [uX_j (by omega), h.z5 hi]
  · refine ⟨fun c hc2 => ?_, by rw [uX_eq]; omega⟩
    rw [uX_k (by decide)]
    exact hc.1 c hc2
  · by_cases c : i = 12 + b
    · rw [c, uX_eq, msk_n (by omega)]
      unfold snap
      rw [if_neg (by omega), if_pos (by omega), uX_eq, Nat.add_sub_cancel_left]
      unfold tbit
      rw [Int.toNat_natCast, h1]
    · rw [uX_j c, ← snap_e h hi]
      refine congrArg (msk (s 0 0) (s 0 1) i) ?_
      unfold snap
      rw [uX_k (a := 4 + 1) (by decide), uX_k (a := 4 + 2) (by decide), uX_eq, uX_j (by decide)]
      split
      · rfl
      · split
        · unfold tbit
          rw [Int.toNat_natCast, h2 _ (by omega) (by omega)]
        · rfl
theorem s_copyFrom {x : XM} {a b : Nat} {q : XM → Prop} (hd : a + 2 < b ∨ b + 2 < a) (hq : ∀ y : XM, (∀ k, k ≠ a → k ≠ a + 1 → k ≠ a + 2 → y k = x k) → (∀ c, c < 12 → y (a + 1) c = x (b + 1) c) → (∀ c, c < 6 → y (a + 2) c = x (b + 2) c) → y a 2 = x b 2 → y a 3 = x b 3 → q y) : M_X2_copyFrom a b x q := by
  intro x1 e1 x2 e2 x3 e3 x4 e4
  have cp1 : ∀ {x : XM} {k0 k1 N k : Nat}, k ≠ k1 → cpX x k0 k1 N k = x k := fun hk => by
    funext j
    exact if_neg fun e => hk e.1
  have cp2 : ∀ {x : XM} {k0 k1 N c : Nat}, c < N → cpX x k0 k1 N k1 c = x k0 c := fun hc => if_pos ⟨rfl, hc⟩
  subst e1 e2 e3 e4
  refine hq _ (fun k h1 h2 h3 => ?_) (fun c hc => ?_) (fun c hc => ?_) ?_ ?_
  · rw [uX_k h1, uX_k h1, cp1 h3, cp1 h2]
  · rw [uX_k (by omega), uX_k (by omega), cp1 (by omega), cp2 hc]
  · rw [uX_k (by omega), uX_k (by omega), cp2 hc, cp1 (by omega)]
  · rw [uX_j (by decide), uX_eq, cp1 (by omega), cp1 (by omega)]
  · rw [uX_eq, uX_k (by omega), cp1 (by omega), cp1 (by omega)]
/-- the state, its past one longer -/
def kn (s : XM) : XM := fun k j => if k = 6 then (if s 0 8 = 16 then (if j < 465 then s 6 (31 + j) else if j < 496 then s 5 (j - 465) else 0) else (if (j : Int) < 31 * s 0 8 then s 6 j else if (j : Int) < 31 * s 0 8 + 31 then s 5 (j - 31 * (s 0 8).toNat) else 0)) else if k = 0 ∧ j = 8 then (if s 0 8 = 16 then 16 else s 0 8 + 1) else s k j
theorem knoo {s : XM} {k j : Nat} (h1 : k ≠ 6) (h2 : ¬ (k = 0 ∧ j = 8)) : kn s k j = s k j := by
  unfold kn
  rw [if_neg h1, if_neg h2]
theorem kno8 {s : XM} : kn s 0 8 = if s 0 8 = 16 then 16 else s 0 8 + 1 := rfl
theorem kno6 {s : XM} {j : Nat} : kn s 6 j = (if s 0 8 = 16 then (if j < 465 then s 6 (31 + j) else if j < 496 then s 5 (j - 465) else 0) else (if (j : Int) < 31 * s 0 8 then s 6 j else if (j : Int) < 31 * s 0 8 + 31 then s 5 (j - 31 * (s 0 8).toNat) else 0)) := rfl
theorem CF.pa {s x : XM} (h : CF s x) {j : Nat} (hj : (j : Int) < 31 * s 0 8) : s 6 j = msk (s 0 0) (s 0 1) (j % 31) (snap x (ringc x (j / 31)) (j % 31)) := by
  rw [← h.e 6 j, cS_6, show x 10 2 = s 0 8 from h.e 0 8, show x (tid (x 3 1) + 1) 1 = s 0 0 from h.e 0 0, show x (tid (x 3 1) + 1) 2 = s 0 1 from h.e 0 1, if_pos hj]
theorem C_remember {s x : XM} {q : XM → Prop} (h : CF s x) (k : Ok s) (hq : ∀ y : XM, CF (kn s) y → (∀ k, (k = 4 ∨ k = 5 ∨ k = 6 ∨ 60 ≤ k) → y k = x k) → q y) : M_X7_remember x q := by
  obtain ⟨i1, i2, i3, i4⟩ := h.2
  have e8 : x 10 2 = s 0 8 := h.e 0 8
  have h8 := k.1.2.2.2.2.2.2.2.2.1
  obtain ⟨w, hw⟩ : ∃ w : Nat, x 10 1 = (w : Int) := ⟨(x 10 1).toNat, by omega⟩
  refine ⟨⟨i3, i4⟩, s_copyFrom (by omega) fun y f1 f2 f3 f4 f5 => ?_⟩
  rw [hw, Int.toNat_natCast] at f1 f2 f3 f4 f5
  have g10 : y 10 = x 10 := f1 10 (by omega) (by omega) (by omega)
  rw [g10, hw]
  refine ⟨rg1 (by omega), by omega, fun x5 e5 => ?_⟩
  have m2 : x5 10 2 = s 0 8 := by rw [e5, uX_j (by decide), g10, e8]
  rw [m2]
  refine ⟨⟨by omega, by omega⟩, s_min fun x8 e9 => ?_⟩
  have m3 : x8 10 2 = if s 0 8 = 16 then 16 else s 0 8 + 1 := by
    rw [e9, uX_eq]
    by_cases c : s 0 8 = 16
    · rw [if_pos (by omega), if_pos c]
    · rw [if_neg (by omega), if_neg c]
  have m4 : x8 10 1 = ((w : Int) + 1) % 16 := by rw [e9, uX_j (by decide), e5, uX_eq]
  have m5 : ∀ k, k ≠ 10 → x8 k = y k := fun k hk => by rw [e9, uX_k hk, e5, uX_k hk]
  have m6 : ∀ k, k ≠ 10 → (k < 12 + 3 * w ∨ 12 + 3 * w + 3 ≤ k) → x8 k = x k := fun k hk hk2 => by rw [m5 k hk, f1 k (by omega) (by omega) (by omega)]
  have hs : ∀ kc j, kc ≠ 10 → kc ≠ 9 → kc ≠ 8 → (kc + 2 < 12 + 3 * w ∨ 12 + 3 * w + 3 ≤ kc) → snap x8 kc j = snap x kc j := by
    intro kc j h1 h2 h3 h4
    unfold snap
    rw [m6 (kc + 1) (by omega) (by omega), m6 kc (by omega) (by omega), m6 (kc + 2) (by omega) (by omega)]
  have hn : ∀ j, snap x8 (12 + 3 * w) j = snap x 4 j := fun j => by
    refine snap_cong (fun c hc => ?_) (fun c hc => ?_) ?_ ?_
    · rw [m5 _ (by omega)]; exact f2 c hc
    · rw [m5 _ (by omega)]; exact f3 c hc
    · rw [m5 _ (by omega)]; exact f4
    · rw [m5 _ (by omega)]; exact f5
  have e3 := m6 3 (by decide) (by omega)
  have et1 : x8 (tid (x8 3 1) + 1) = x (tid (x 3 1) + 1) := by rw [e3]; exact m6 _ (by rcases tid_c (x 3 1) with e | e <;> omega) (by rcases tid_c (x 3 1) with e | e <;> omega)
  have et2 : x8 (tid (x8 3 1) + 2) = x (tid (x 3 1) + 2) := by rw [e3]; exact m6 _ (by rcases tid_c (x 3 1) with e | e <;> omega) (by rcases tid_c (x 3 1) with e | e <;> omega)
  refine hq x8 ⟨cS_ext (lt12 ?_ ?_ ?_ ?_ ?_ ?_ ?_ ?_ ?_ ?_ ?_ ?_) fun k hk j => by rw [knoo (by omega) (by omega), h.z hk], ?_⟩ fun k hk => m6 k (by omega) (by omega)
  all_goals try intro j
  · by_cases c : j = 8
    · rw [c, kno8]
      exact m3
    · rw [knoo (by decide) (by omega), ← h.e 0 j]
      rw [cS_0, cS_0]
      unfold cS0
      rw [et1, et2, m6 1 (by decide) (by omega), m6 0 (by decide) (by omega), m6 60 (by decide) (by omega), m6 63 (by decide) (by omega), m6 75 (by decide) (by omega), m6 79 (by decide) (by omega)]
      match j, c with
      | 0, _ | 1, _ | 2, _ | 3, _ | 4, _ | 5, _ | 6, _ | 7, _ | 9, _ | 10, _ | 11, _ | 12, _ => rfl
      | n + 13, _ => rfl
  · rw [knoo (by decide) (by omega), ← h.e 1 j]
    rw [cS_1, cS_1]
    rw [et1, et2]
  · rw [knoo (by decide) (by omega), ← h.e 2 j]
    rw [cS_2, cS_2]
    rw [et1, et2]
  · rw [knoo (by decide) (by omega), ← h.e 3 j]
    rw [cS_3, cS_3]
    rw [et1, et2]
  · rw [knoo (by decide) (by omega), ← h.e 4 j]
    rw [cS_4, cS_4]
    rw [et1, et2]
  · rw [knoo (by decide) (by omega), ← h.e 5 j]
    rw [cS_5, cS_5, et1]
    rw [hs 4 j (by decide) (by decide) (by decide) (by omega)]
  · rw [cS_6, et1, show x (tid (x 3 1) + 1) 1 = s 0 0 from h.e 0 0, show x (tid (x 3 1) + 1) 2 = s 0 1 from h.e 0 1]
    rw [kno6, m3]
    unfold ringc
    rw [m3, m4]
    by_cases c : s 0 8 = 16
    · rw [if_pos c, if_pos c]
      by_cases d : j < 465
      · rw [if_pos d, if_pos (by omega), h.pa (by omega)]
        unfold ringc
        rw [hw, e8, show (31 + j) / 31 = j / 31 + 1 by omega, show (31 + j) % 31 = j % 31 by omega, hs _ _ (by omega) (by omega) (by omega) (by omega)]
        refine congrArg (fun kc => msk (s 0 0) (s 0 1) (j % 31) (snap x kc (j % 31))) ?_
        omega
      · rw [if_neg d]
        by_cases e : j < 496
        · rw [if_pos e, if_pos (by omega), ← snap_e h (by omega), show 12 + 3 * (((((w : Int) + 1) % 16).toNat + 16 - (16 : Int).toNat + j / 31) % 16) = 12 + 3 * w by omega, hn]
          refine congrArg (fun c => msk (s 0 0) (s 0 1) c (snap x 4 c)) ?_
          omega
        · rw [if_neg e, if_neg (by omega)]
    · rw [if_neg c, if_neg c]
      by_cases d : (j : Int) < 31 * s 0 8
      · rw [if_pos d, if_pos (by omega), h.pa (by omega)]
        unfold ringc
        rw [hw, e8, hs _ _ (by omega) (by omega) (by omega) (by omega)]
        refine congrArg (fun kc => msk (s 0 0) (s 0 1) (j % 31) (snap x kc (j % 31))) ?_
        omega
      · rw [if_neg d]
        by_cases e : (j : Int) < 31 * s 0 8 + 31
        · rw [if_pos e, if_pos (by omega), ← snap_e h (by omega), show 12 + 3 * (((((w : Int) + 1) % 16).toNat + 16 - (s 0 8 + 1).toNat + j / 31) % 16) = 12 + 3 * w by omega, hn]
          refine congrArg (fun c => msk (s 0 0) (s 0 1) c (snap x 4 c)) ?_
          omega
        · rw [if_neg e, if_neg (by omega)]
  · rw [knoo (by decide) (by omega), ← h.e 7 j]
    rw [cS_7, cS_7, et1]
    rw [m6 (75 + 4 * (j / 31)) (by omega) (by omega), hs _ _ (by omega) (by omega) (by omega) (by omega)]
  · rw [knoo (by decide) (by omega), ← h.e 8 j]
    show (if (j : Int) < x8 1 1 then x8 2 j else 0) = (if (j : Int) < x 1 1 then x 2 j else 0)
    rw [m6 1 (by decide) (by omega), m6 2 (by decide) (by omega)]
  · rw [knoo (by decide) (by omega), ← h.e 9 j]
    show (if (j : Int) < x8 60 2 then x8 61 j else 0) = (if (j : Int) < x 60 2 then x 61 j else 0)
    rw [m6 60 (by decide) (by omega), m6 61 (by decide) (by omega)]
  · rw [knoo (by decide) (by omega), ← h.e 10 j]
    show (if (j : Int) < x8 60 2 then x8 62 j else 0) = (if (j : Int) < x 60 2 then x 62 j else 0)
    rw [m6 60 (by decide) (by omega), m6 62 (by decide) (by omega)]
  · rw [knoo (by decide) (by omega), ← h.e 11 j]
    show (if j < 2 ∧ x8 (75 + 4 * j) 2 = 1 then x8 (75 + 4 * j) 1 else 0) = (if j < 2 ∧ x (75 + 4 * j) 2 = 1 then x (75 + 4 * j) 1 else 0)
    rw [m6 (75 + 4 * j) (by omega) (by omega)]
  · refine ⟨by rw [e3, m6 0 (by decide) (by omega)]; exact i1, fun kc hk => ?_, by rw [m4]; omega, by rw [m4]; omega⟩
    have l2 := lay2' hk
    by_cases c : kc = 12 + 3 * w
    · have c4 := i2 4 (by decide)
      rw [c]
      refine ⟨fun b hb => ?_, ?_⟩
      · rw [m5 _ (by omega), f2 b hb]
        exact c4.1 b hb
      · rw [m5 _ (by omega), f4]
        exact c4.2
    · unfold CK
      rw [m6 (kc + 1) (by omega) (by omega), m6 kc (by omega) (by omega)]
      exact i2 kc hk
/-- the reference's past -/
def knY (x : XM) (i : Nat) : XM := fun a b => if a = 94 ∧ 31 * (x 83 27).toNat ≤ b ∧ b < 31 * (x 83 27).toNat + i then x 93 (b - 31 * (x 83 27).toNat) else x a b
theorem r_know_51 {x : XM} {q : XM → Prop} (h0 : 0 ≤ x 83 27 ∧ x 83 27 < 16) (hq : q (uX (knY x 31) 83 27 (x 83 27 + 1))) (n : Nat) : ∀ i, i ≤ 31 → 31 < i + n → M_X11_know_51 q n (knY x i) (i : Int) := by
  induction n with
  | zero => intro i h1 h2; omega
  | succ n ih =>
    intro i h1 h2
    unfold M_X11_know_51
    have a1 : knY x i 83 27 = x 83 27 := if_neg (by simp)
    have a2 : ∀ j, knY x i 93 j = x 93 j := fun j => if_neg (by simp)
    rw [a1, a2]
    refine ⟨fun c => ⟨⟨by omega, by omega⟩, fun x4 e4 => ?_⟩, fun c => ⟨⟨by omega, by omega⟩, ⟨by omega, by omega⟩, fun x7 e7 => ⟨rg1 (by omega), ?_⟩⟩⟩
    · rw [e4, show i = 31 by omega]
      exact hq
    · have := ih (i + 1) (by omega) (by omega)
      have e : x7 = knY x (i + 1) := by
        rw [e7]
        funext a b
        unfold uX knY
        rw [Int.toNat_natCast, show (31 * x 83 27 + (i : Int)).toNat = 31 * (x 83 27).toNat + i by omega]
        by_cases c1 : a = 94 ∧ b = 31 * (x 83 27).toNat + i
        · rw [if_pos c1, if_pos (by omega), show b - 31 * (x 83 27).toNat = i by omega]
        · rw [if_neg c1]
          by_cases c2 : a = 94 ∧ 31 * (x 83 27).toNat ≤ b ∧ b < 31 * (x 83 27).toNat + i
          · rw [if_pos c2, if_pos (by omega)]
          · rw [if_neg c2, if_neg (by omega)]
      rw [e]
      exact this
def knZ (x : XM) (i : Nat) : XM := fun a b => if a = 94 ∧ b < i then x 94 (31 + b) else x a b
theorem r_know_11 {x : XM} {q : XM → Prop} (h0 : x 83 27 = 16) (hq : ∃ m, M_X11_know_51 q m (uX (knZ x 465) 83 27 15) 0) (n : Nat) : ∀ i, i ≤ 465 → 465 < i + n → M_X11_know_11 q n (knZ x i) (i : Int) := by
  induction n with
  | zero => intro i h1 h2; omega
  | succ n ih =>
    intro i h1 h2
    unfold M_X11_know_11
    have a1 : knZ x i 83 27 = x 83 27 := if_neg (by simp)
    rw [a1, h0]
    refine ⟨fun c => ⟨⟨by decide, by decide⟩, fun x4 e4 => ?_⟩, fun c => ⟨⟨by omega, by omega⟩, ⟨by omega, by omega⟩, fun x7 e7 => ⟨rg1 (by omega), ?_⟩⟩⟩
    · rw [e4, show i = 465 by omega]
      exact hq
    · have := ih (i + 1) (by omega) (by omega)
      have e : x7 = knZ x (i + 1) := by
        rw [e7]
        funext a b
        unfold uX knZ
        rw [Int.toNat_natCast, show (31 + (i : Int)).toNat = 31 + i by omega, if_neg (show ¬ (94 = 94 ∧ 31 + i < i) by omega)]
        by_cases c1 : a = 94 ∧ b = i
        · rw [if_pos c1, if_pos (by omega), c1.2]
        · rw [if_neg c1]
          by_cases c2 : a = 94 ∧ b < i
          · rw [if_pos c2, if_pos (by omega)]
          · rw [if_neg c2, if_neg (by omega)]
      rw [e]
      exact this
theorem RF.past {s x y t : XM} (h : RF s x) (hy : ∀ k, k ≠ 83 → k ≠ 94 → y k = x k) (hy2 : ∀ j, j ≠ 27 → y 83 j = x 83 j) (ht : ∀ k j, k ≠ 6 → ¬ (k = 0 ∧ j = 8) → t k j = s k j) (h8 : y 83 27 = t 0 8) (h6 : ∀ j : Nat, (if (j : Int) < 31 * t 0 8 then msk (s 0 0) (s 0 1) (j % 31) (y 94 j) else 0) = t 6 j) : RF t y := by
  refine ⟨rS_ext (lt12 ?_ ?_ ?_ ?_ ?_ ?_ ?_ ?_ ?_ ?_ ?_ ?_) fun k hk j => by rw [ht k j (by omega) (by omega), h.z hk], ?_⟩
  all_goals intro j
  · by_cases c : j = 8
    · rw [c, ← h8]
      rfl
    · rw [ht 0 j (by decide) (by omega), ← h.e 0 j]
      rw [rS_0, rS_0]
      unfold rS0
      rw [hy 97 (by decide) (by decide)]
      match j, c with
      | 0, _ => exact hy2 _ (by decide)
      | 1, _ => exact hy2 _ (by decide)
      | 2, _ => exact hy2 _ (by decide)
      | 3, _ => exact hy2 _ (by decide)
      | 4, _ => exact hy2 _ (by decide)
      | 5, _ => exact hy2 _ (by decide)
      | 6, _ => exact hy2 _ (by decide)
      | 7, _ => exact hy2 _ (by decide)
      | 9, _ => exact hy2 _ (by decide)
      | 10, _ => exact hy2 _ (by decide)
      | 11, _ => rfl
      | 12, _ => rfl
      | n + 13, _ => rfl
  · rw [ht 1 j (by decide) (by omega), ← h.e 1 j]
    rw [rS_1, rS_1]
    rw [hy2 3 (by decide), hy 85 (by decide) (by decide)]
  · rw [ht 2 j (by decide) (by omega), ← h.e 2 j]
    rw [rS_2, rS_2]
    rw [hy2 5 (by decide), hy 86 (by decide) (by decide)]
  · rw [ht 3 j (by decide) (by omega), ← h.e 3 j]
    rw [rS_3, rS_3]
    rw [hy2 7 (by decide), hy 87 (by decide) (by decide)]
  · rw [ht 4 j (by decide) (by omega), ← h.e 4 j]
    rw [rS_4, rS_4]
    rw [hy2 9 (by decide), hy 88 (by decide) (by decide)]
  · rw [ht 5 j (by decide) (by omega), ← h.e 5 j]
    rw [rS_5, rS_5]
    rw [hy2 3 (by decide), hy2 5 (by decide), hy 93 (by decide) (by decide)]
  · rw [rS_6, ← h6 j, ← h8, hy2 3 (by decide), hy2 5 (by decide), show x 83 3 = s 0 0 from h.e 0 0, show x 83 5 = s 0 1 from h.e 0 1]
  · rw [ht 7 j (by decide) (by omega), ← h.e 7 j]
    rw [rS_7, rS_7]
    rw [hy2 3 (by decide), hy2 5 (by decide), hy 97 (by decide) (by decide), hy 95 (by decide) (by decide)]
  · rw [ht 8 j (by decide) (by omega), ← h.e 8 j]
    rw [rS_8, rS_8]
    rw [hy2 1 (by decide), hy 84 (by decide) (by decide)]
  · rw [ht 9 j (by decide) (by omega), ← h.e 9 j]
    rw [rS_9, rS_9]
    rw [hy2 38 (by decide), hy 101 (by decide) (by decide)]
  · rw [ht 10 j (by decide) (by omega), ← h.e 10 j]
    rw [rS_10, rS_10]
    rw [hy2 38 (by decide), hy 102 (by decide) (by decide)]
  · rw [ht 11 j (by decide) (by omega), ← h.e 11 j]
    rw [rS_11, rS_11]
    rw [hy 97 (by decide) (by decide), hy 96 (by decide) (by decide)]
  · rw [hy 84 (by decide) (by decide)]
    exact h.2 j
theorem RF.pa {s x : XM} (h : RF s x) {j : Nat} (hj : (j : Int) < 31 * s 0 8) : msk (s 0 0) (s 0 1) (j % 31) (x 94 j) = s 6 j := by
  rw [← h.e 6 j, rS_6, show x 83 27 = s 0 8 from h.e 0 8, show x 83 3 = s 0 0 from h.e 0 0, show x 83 5 = s 0 1 from h.e 0 1, if_pos hj]
theorem R_know {s x : XM} {q : XM → Prop} (h : RF s x) (k : Ok s) (hq : ∀ y : XM, RF (kn s) y → (∀ k, k ≠ 83 → k ≠ 94 → y k = x k) → (∀ j, j ≠ 27 → y 83 j = x 83 j) → q y) : M_X11_know x q := by
  have e8 : x 83 27 = s 0 8 := h.e 0 8
  have h8 := k.1.2.2.2.2.2.2.2.2.1
  refine ⟨fun c => ⟨32, ?_⟩, fun c => ⟨466, ?_⟩⟩
  · have := r_know_51 (x := x) (q := q) (by omega) (hq _ ?_ ?_ ?_) 32 0 (by decide) (by decide)
    · have e : knY x 0 = x := by
        funext a b
        exact if_neg (by omega)
      rw [e] at this
      exact this
    · refine h.past (fun k h1 h2 => ?_) (fun j hj => ?_) (fun k j h1 h2 => knoo h1 h2) ?_ fun j => ?_
      · rw [uX_k h1]
        funext b
        exact if_neg (by omega)
      · rw [uX_j hj]
        exact if_neg (by omega)
      · rw [uX_eq, kno8, e8, if_neg (by omega)]
      · rw [kno6, kno8, uX_k (by decide), if_neg (show ¬ s 0 8 = 16 by omega), if_neg (show ¬ s 0 8 = 16 by omega)]
        unfold knY
        rw [e8]
        by_cases d : (j : Int) < 31 * s 0 8
        · rw [if_pos d, if_pos (by omega), if_neg (by omega), h.pa d]
        · rw [if_neg d]
          by_cases e : (j : Int) < 31 * s 0 8 + 31
          · rw [if_pos e, if_pos (by omega), if_pos (by omega), h.m5, if_pos (by omega), show j % 31 = j - 31 * (s 0 8).toNat by omega]
          · rw [if_neg e, if_neg (by omega)]
    · intro k h1 h2
      rw [uX_k h1]
      funext b
      exact if_neg (by omega)
    · intro j hj
      rw [uX_j hj]
      exact if_neg (by omega)
  · have b1 : ∀ k, k ≠ 83 → k ≠ 94 → uX (knZ x 465) 83 27 15 k = x k := fun k h1 h2 => by
      rw [uX_k h1]
      funext b
      exact if_neg (by omega)
    have b2 : ∀ j, j ≠ 27 → uX (knZ x 465) 83 27 15 83 j = x 83 j := fun j hj => by
      rw [uX_j hj]
      exact if_neg (by omega)
    have b3 : uX (knZ x 465) 83 27 15 83 27 = 15 := uX_eq
    have b4 : ∀ j, uX (knZ x 465) 83 27 15 94 j = if j < 465 then x 94 (31 + j) else x 94 j := fun j => by
      rw [uX_k (by decide)]
      unfold knZ
      by_cases d : j < 465
      · rw [if_pos d, if_pos ⟨rfl, d⟩]
      · rw [if_neg d, if_neg (by omega)]
    generalize hx1 : uX (knZ x 465) 83 27 15 = x1 at b1 b2 b3 b4
    have := r_know_11 (x := x) (q := q) c ⟨32, ?_⟩ 466 0 (by decide) (by decide)
    · have e : knZ x 0 = x := by
        funext a b
        exact if_neg (by omega)
      rw [e] at this
      exact this
    · rw [hx1]
      have := r_know_51 (x := x1) (q := q) (by omega) (hq _ ?_ ?_ ?_) 32 0 (by decide) (by decide)
      · have e : knY x1 0 = x1 := by
          funext a b
          exact if_neg (by omega)
        rw [e] at this
        exact this
      · refine h.past (fun k h1 h2 => ?_) (fun j hj => ?_) (fun k j h1 h2 => knoo h1 h2) ?_ fun j => ?_
        · rw [uX_k h1, ← b1 k h1 h2]
          funext b
          exact if_neg (by omega)
        · rw [uX_j hj, ← b2 j hj]
          exact if_neg (by omega)
        · rw [uX_eq, kno8, b3, if_pos (by omega)]
          rfl
        · rw [kno6, kno8, uX_k (by decide), if_pos (show s 0 8 = 16 by omega), if_pos (show s 0 8 = 16 by omega)]
          unfold knY
          rw [b3, b4, b1 93 (by decide) (by decide)]
          by_cases d : j < 465
          · rw [if_pos d, if_pos d, if_pos (by omega), if_neg (by omega), ← h.pa (by omega), show (31 + j) % 31 = j % 31 by omega]
          · rw [if_neg d]
            by_cases e : j < 496
            · rw [if_pos e, if_pos (by omega), if_pos (by omega), show j - 31 * (15 : Int).toNat = j - 465 by omega, if_neg d, h.m5, if_pos (by omega), show j % 31 = j - 465 by omega]
            · rw [if_neg e, if_neg (by omega), if_neg d]
      · intro k h1 h2
        rw [uX_k h1, ← b1 k h1 h2]
        funext b
        exact if_neg (by omega)
      · intro j hj
        rw [uX_j hj, ← b2 j hj]
        exact if_neg (by omega)
theorem SnOk.cong {s t : XM} {k o k' o' : Nat} (h : SnOk s k o) (h6 : s 0 1 ≤ 6) (h0 : t 0 0 = s 0 0) (h1 : t 0 1 = s 0 1) (he : ∀ c, c < 31 → t k' (o' + c) = s k (o + c)) : SnOk t k' o' := by
  obtain ⟨a1, a2, a3, a4, a5, a6, a7, a8, a9⟩ := h
  have e12 : ∀ b, b < 12 → t k' (o' + 12 + b) = s k (o + 12 + b) := fun b hb => by rw [Nat.add_assoc, Nat.add_assoc]; exact he _ (by omega)
  have e24 : ∀ b, b < 6 → t k' (o' + 24 + b) = s k (o + 24 + b) := fun b hb => by rw [Nat.add_assoc, Nat.add_assoc]; exact he _ (by omega)
  refine ⟨fun b hb => by rw [he b (by omega)]; exact a1 b hb, fun b hb hb2 => by rw [he b (by omega)]; exact a2 b hb (h0 ▸ hb2), fun b c hb hc => by rw [he b (by omega), he c (by omega)]; exact a3 b c hb hc, fun b hb => by rw [e12 b hb]; exact a4 b hb, fun b hb hb2 => by rw [e12 b hb]; exact a5 b hb (h0 ▸ hb2), fun p hp => by rw [e24 p hp]; exact a6 p hp, ?_, fun p p' hp hp' => by rw [e24 p (by omega), e24 p' (by omega)]; exact a8 p p' (h1 ▸ hp) (h1 ▸ hp'), by rw [he 30 (by omega)]; exact a9⟩
  intro p hp
  rw [e24 p (by omega), h1]
  exact a7 p (h1 ▸ hp)
