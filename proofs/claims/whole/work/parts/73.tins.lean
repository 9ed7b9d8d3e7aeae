/-! ===== tin: the states after ===== -/
def faS (s : XM) (p : Nat) : XM := fun k j => if k = 8 then 0 else if k = 0 ∧ j = 6 then 0 else if k = 0 ∧ j = 7 then (p : Int) else s k j
theorem faS_o {s : XM} {p k j : Nat} (h8 : k ≠ 8) (h0 : ¬ (k = 0 ∧ (j = 6 ∨ j = 7))) : faS s p k j = s k j := by
  unfold faS
  rw [if_neg h8, if_neg (by omega), if_neg (by omega)]
theorem faS_k {s : XM} {p k : Nat} (h8 : k ≠ 8) (h0 : k ≠ 0) : faS s p k = s k := funext fun _ => faS_o h8 (by omega)
theorem faS_6 {s : XM} {p : Nat} : faS s p 0 6 = 0 := by
  unfold faS
  rw [if_neg (by omega), if_pos ⟨rfl, rfl⟩]
theorem faS_7 {s : XM} {p : Nat} : faS s p 0 7 = (p : Int) := by
  unfold faS
  rw [if_neg (by omega), if_neg (by omega), if_pos ⟨rfl, rfl⟩]
theorem faS_8 {s : XM} {p j : Nat} : faS s p 8 j = 0 := if_pos rfl
theorem ok_fa {s : XM} {p : Nat} (k : Ok s) (hp : p ≤ 240) : Ok (faS s p) := by
  have hr := k.r
  obtain ⟨k1, k2, k3, k4, k5, k6, k7⟩ := k
  obtain ⟨a0, a1, a2, a3, a4, a5, a6, a7, a8, a9, a10⟩ := k1
  have w : ∀ j, j ≠ 6 → j ≠ 7 → faS s p 0 j = s 0 j := fun j h1 h2 => faS_o (by decide) (by omega)
  have u : ∀ k, k ≠ 8 → k ≠ 0 → faS s p k = s k := fun k h1 h2 => faS_k h1 h2
  have w0 := w 0 (by decide) (by decide)
  have w1 := w 1 (by decide) (by decide)
  refine ⟨?_, ?_, ?_, ?_, ?_, ?_, ?_⟩
  · unfold OkN
    rw [w0, w1, w 2 (by decide) (by decide), w 3 (by decide) (by decide), w 4 (by decide) (by decide), w 5 (by decide) (by decide), faS_6, faS_7, w 8 (by decide) (by decide), w 9 (by decide) (by decide), w 10 (by decide) (by decide)]
    exact ⟨a0, a1, a2, a3, a4, a5, by omega, by omega, a8, a9, a10⟩
  · unfold OkT MkOk RuOk
    rw [w0, w1, w 2 (by decide) (by decide), w 3 (by decide) (by decide), u 1 (by decide) (by decide), u 2 (by decide) (by decide), u 3 (by decide) (by decide), u 4 (by decide) (by decide)]
    exact k2
  · exact k3.cong (by omega) w0 w1 fun c hc => faS_o (by decide) (by omega)
  · intro i hi
    rw [w 8 (by decide) (by decide)] at hi
    exact (k4 i hi).cong (by omega) w0 w1 fun c hc => faS_o (by decide) (by omega)
  · intro i hi
    rw [w (11 + i) (by omega) (by omega), u 11 (by decide) (by decide)]
    rcases k5 i hi with e | ⟨e1, e2, e3⟩
    · exact Or.inl e
    · exact Or.inr ⟨e1, e2.cong (by omega) w0 w1 fun c hc => faS_o (by decide) (by omega), e3⟩
  · intro i hi
    rw [w 9 (by decide) (by decide)] at hi
    rw [w0, u 9 (by decide) (by decide), u 10 (by decide) (by decide)]
    exact k6 i hi
  · intro i hi
    rw [faS_6] at hi
    omega
/-- the spare telling is not looked at -/
theorem cS_sp {x y : XM} (h : ∀ k, k < 83 → ¬ (k = 8 ∨ k = 9 ∨ k = 73 ∨ k = 74) → y k = x k) (h1 : y (tid (x 3 1) + 1) = x (tid (x 3 1) + 1)) (h2 : y (tid (x 3 1) + 2) = x (tid (x 3 1) + 2)) : cS y = cS x := by
  have h3 : y 3 = x 3 := h 3 (by decide) (by decide)
  have hs : ∀ kc j, (kc = 4 ∨ (12 ≤ kc ∧ kc + 2 < 60) ∨ kc = 76 ∨ kc = 80) → snap y kc j = snap x kc j := by
    intro kc j hk
    unfold snap
    rw [h (kc + 1) (by omega) (by omega), h kc (by omega) (by omega), h (kc + 2) (by omega) (by omega)]
  funext k j
  unfold cS
  rw [h3, h 1 (by decide) (by decide), h 0 (by decide) (by decide), h 10 (by decide) (by decide), h 60 (by decide) (by decide), h 63 (by decide) (by decide), h 75 (by decide) (by decide), h 79 (by decide) (by decide), h 2 (by decide) (by decide), h 61 (by decide) (by decide), h 62 (by decide) (by decide), h1, h2]
  have hr : ∀ i, ringc y i = ringc x i := fun i => by unfold ringc; rw [h 10 (by decide) (by decide)]
  have hr2 : ∀ i, 12 ≤ ringc x i ∧ ringc x i + 2 < 60 := fun i => by unfold ringc; omega
  match k with
  | 0 | 1 | 2 | 3 | 4 | 8 | 9 | 10 => rfl
  | 5 =>
    show (if j < 31 then msk (x (tid (x 3 1) + 1) 1) (x (tid (x 3 1) + 1) 2) j (snap y 4 j) else 0) = (if j < 31 then msk (x (tid (x 3 1) + 1) 1) (x (tid (x 3 1) + 1) 2) j (snap x 4 j) else 0)
    rw [hs 4 j (by omega)]
  | 6 =>
    show (if (j : Int) < 31 * x 10 2 then msk (x (tid (x 3 1) + 1) 1) (x (tid (x 3 1) + 1) 2) (j % 31) (snap y (ringc y (j / 31)) (j % 31)) else 0) = (if (j : Int) < 31 * x 10 2 then msk (x (tid (x 3 1) + 1) 1) (x (tid (x 3 1) + 1) 2) (j % 31) (snap x (ringc x (j / 31)) (j % 31)) else 0)
    rw [hr, hs _ _ (Or.inr (Or.inl (hr2 _)))]
  | 7 =>
    show (if j < 62 ∧ y (75 + 4 * (j / 31)) 2 = 1 then msk (x (tid (x 3 1) + 1) 1) (x (tid (x 3 1) + 1) 2) (j % 31) (snap y (76 + 4 * (j / 31)) (j % 31)) else 0) = (if j < 62 ∧ x (75 + 4 * (j / 31)) 2 = 1 then msk (x (tid (x 3 1) + 1) 1) (x (tid (x 3 1) + 1) 2) (j % 31) (snap x (76 + 4 * (j / 31)) (j % 31)) else 0)
    by_cases c : j < 62
    · rw [h (75 + 4 * (j / 31)) (by omega) (by omega), hs _ _ (by omega)]
    · rw [if_neg (fun q => c q.1), if_neg (fun q => c q.1)]
  | 11 =>
    show (if j < 2 ∧ y (75 + 4 * j) 2 = 1 then y (75 + 4 * j) 1 else 0) = (if j < 2 ∧ x (75 + 4 * j) 2 = 1 then x (75 + 4 * j) 1 else 0)
    by_cases c : j < 2
    · rw [h (75 + 4 * j) (by omega) (by omega)]
    · rw [if_neg (fun q => c q.1), if_neg (fun q => c q.1)]
  | k + 12 => rfl
theorem tid_2 {x : XM} (h : CI x) : (tid (x 3 1) = 7 ∧ tid (x 0 8) = 72) ∨ (tid (x 3 1) = 72 ∧ tid (x 0 8) = 7) := by
  rcases h.1 with ⟨e1, e2⟩ | ⟨e1, e2⟩
  · rw [e1, e2]; exact Or.inl ⟨rfl, rfl⟩
  · rw [e1, e2]; exact Or.inr ⟨rfl, rfl⟩
theorem CF.sp {s x y : XM} (h : CF s x) (hy : ∀ k, k < 83 → k ≠ tid (x 0 8) + 1 → k ≠ tid (x 0 8) + 2 → y k = x k) : CF s y := by
  have ht := tid_2 h.2
  refine ⟨(cS_sp (fun k h1 h2 => hy k h1 (by omega) (by omega)) (hy _ (by omega) (by omega) (by omega)) (hy _ (by omega) (by omega) (by omega))).trans h.1, ?_⟩
  obtain ⟨h1, h2, h3, h4⟩ := h.2
  refine ⟨by rw [hy 3 (by omega) (by omega) (by omega), hy 0 (by omega) (by omega) (by omega)]; exact h1, fun kc hk => ?_, by rw [hy 10 (by omega) (by omega) (by omega)]; exact h3, by rw [hy 10 (by omega) (by omega) (by omega)]; exact h4⟩
  have := lay2' hk
  unfold CK
  rw [hy (kc + 1) (by omega) (by omega) (by omega), hy kc (by omega) (by omega) (by omega)]
  exact h2 kc hk
theorem CF.fa0 {s x y : XM} {p : Nat} (h : CF s x) (hy : ∀ k, k < 83 → k ≠ 0 → k ≠ 1 → y k = x k) (h0 : ∀ j, j ≠ 9 → y 0 j = x 0 j) (h9 : y 0 9 = (p : Int)) (h1 : y 1 1 = 0) : CF (faS s p) y := by
  have e3 := hy 3 (by decide) (by decide) (by decide)
  have et1 : y (tid (y 3 1) + 1) = x (tid (x 3 1) + 1) := by rw [e3]; rcases tid_c (x 3 1) with e | e <;> rw [e] <;> exact hy _ (by decide) (by decide) (by decide)
  have et2 : y (tid (y 3 1) + 2) = x (tid (x 3 1) + 2) := by rw [e3]; rcases tid_c (x 3 1) with e | e <;> rw [e] <;> exact hy _ (by decide) (by decide) (by decide)
  have u : ∀ k, k ≠ 8 → k ≠ 0 → faS s p k = s k := fun k h1 h2 => faS_k h1 h2
  refine ⟨cS_ext (lt12 ?_ ?_ ?_ ?_ ?_ ?_ ?_ ?_ ?_ ?_ ?_ ?_) fun k hk j => by rw [faS_o (by omega) (by omega), h.z hk], ?_⟩
  all_goals try intro j
  · by_cases c : j = 6
    · rw [c, faS_6]
      exact h1
    · by_cases c2 : j = 7
      · rw [c2, faS_7]
        exact h9
      · rw [faS_o (by decide) (by omega), ← h.e 0 j, cS_0, cS_0]
        unfold cS0
        rw [et1, et2, hy 10 (by decide) (by decide) (by decide), hy 60 (by decide) (by decide) (by decide), hy 63 (by decide) (by decide) (by decide), hy 75 (by decide) (by decide) (by decide), hy 79 (by decide) (by decide) (by decide)]
        match j, c, c2 with
        | 0, _, _ | 1, _, _ | 2, _, _ | 3, _, _ | 4, _, _ | 5, _, _ | 8, _, _ | 9, _, _ | 10, _, _ | 11, _, _ | 12, _, _ => rfl
        | n + 13, _, _ => rfl
  · rw [u 1 (by decide) (by decide), ← h.e 1 j, cS_1, cS_1, et1, et2]
  · rw [u 2 (by decide) (by decide), ← h.e 2 j, cS_2, cS_2, et1, et2]
  · rw [u 3 (by decide) (by decide), ← h.e 3 j, cS_3, cS_3, et1, et2]
  · rw [u 4 (by decide) (by decide), ← h.e 4 j, cS_4, cS_4, et1, et2]
  · rw [u 5 (by decide) (by decide)]; exact cs5 h (fun k hk => hy k (by omega) (by omega) (by omega)) (hy _ (by decide) (by decide) (by decide)) (hy _ (by decide) (by decide) (by decide)) (hy _ (by decide) (by decide) (by decide)) j
  · rw [u 6 (by decide) (by decide)]; exact cs6 h (fun k hk => hy k (by omega) (by omega) (by omega)) (hy _ (by decide) (by decide) (by decide)) (fun k h1 h2 => hy k (by omega) (by omega) (by omega)) j
  · rw [u 7 (by decide) (by decide)]; exact cs7 h (fun k hk => hy k (by omega) (by omega) (by omega)) (fun k h1 h2 => hy k (by omega) (by omega) (by omega)) j
  · rw [faS_8, cS_8, h1, if_neg (by omega)]
  · rw [u 9 (by decide) (by decide)]; exact cs9 h (hy _ (by decide) (by decide) (by decide)) (hy _ (by decide) (by decide) (by decide)) j
  · rw [u 10 (by decide) (by decide)]; exact cs10 h (hy _ (by decide) (by decide) (by decide)) (hy _ (by decide) (by decide) (by decide)) j
  · rw [u 11 (by decide) (by decide)]; exact cs11 h (fun k h1 h2 => hy k (by omega) (by omega) (by omega)) j
  · obtain ⟨h1, h2, h3, h4⟩ := h.2
    refine ⟨by rw [e3, h0 8 (by decide)]; exact h1, fun kc hk => ?_, by rw [hy 10 (by decide) (by decide) (by decide)]; exact h3, by rw [hy 10 (by decide) (by decide) (by decide)]; exact h4⟩
    have := lay2' hk
    unfold CK
    rw [hy (kc + 1) (by omega) (by omega) (by omega), hy kc (by omega) (by omega) (by omega)]
    exact h2 kc hk
theorem CF.fa {s x y : XM} {p : Nat} (h : CF s x) (hy : ∀ k, k < 83 → k ≠ 0 → k ≠ 1 → k ≠ tid (x 0 8) + 1 → k ≠ tid (x 0 8) + 2 → y k = x k) (h0 : ∀ j, j ≠ 9 → y 0 j = x 0 j) (h9 : y 0 9 = (p : Int)) (h1 : y 1 1 = 0) : CF (faS s p) y := by
  have ht := tid_2 h.2
  have hs : CF s (fun k => if k = tid (x 0 8) + 1 ∨ k = tid (x 0 8) + 2 then y k else x k) := h.sp fun k _ h2 h3 => if_neg (by omega)
  refine CF.fa0 hs (fun k a1 a2 a3 => ?_) (fun j hj => ?_) h9 h1
  · by_cases c : k = tid (x 0 8) + 1 ∨ k = tid (x 0 8) + 2
    · exact (if_pos c).symm
    · rw [if_neg c]; exact hy k a1 a2 a3 (by omega) (by omega)
  · rw [if_neg (by omega)]; exact h0 j hj
theorem RF.fa {s x y : XM} {p : Nat} (h : RF s x) (hy : ∀ k, 83 < k → ¬ (89 ≤ k ∧ k < 93) → y k = x k) (hf : ∀ j, ¬ (j = 1 ∨ j = 21 ∨ j = 11 ∨ j = 12 ∨ j = 14 ∨ j = 16 ∨ j = 18 ∨ j = 22 ∨ j = 23 ∨ j = 24) → y 83 j = x 83 j) (h1 : y 83 1 = 0) (h2 : y 83 21 = (p : Int)) : RF (faS s p) y := by
  have u : ∀ k, k ≠ 8 → k ≠ 0 → faS s p k = s k := fun k h1 h2 => faS_k h1 h2
  refine ⟨rS_ext (lt12 ?_ ?_ ?_ ?_ ?_ ?_ ?_ ?_ ?_ ?_ ?_ ?_) fun k hk j => by rw [faS_o (by omega) (by omega), h.z hk], ?_⟩
  all_goals intro j
  · by_cases c : j = 6
    · rw [c, faS_6]
      exact h1
    · by_cases c2 : j = 7
      · rw [c2, faS_7]
        exact h2
      · rw [faS_o (by decide) (by omega), ← h.e 0 j, rS_0, rS_0]
        unfold rS0
        rw [hf 3 (by decide), hf 5 (by decide), hf 7 (by decide), hf 9 (by decide), hf 2 (by decide), hf 20 (by decide), hf 27 (by decide), hf 38 (by decide), hf 31 (by decide), hy 97 (by decide) (by decide)]
        match j, c, c2 with
        | 0, _, _ | 1, _, _ | 2, _, _ | 3, _, _ | 4, _, _ | 5, _, _ | 8, _, _ | 9, _, _ | 10, _, _ | 11, _, _ | 12, _, _ => rfl
        | n + 13, _, _ => rfl
  · rw [u 1 (by decide) (by decide), ← h.e 1 j, rS_1, rS_1, hf 3 (by decide), hy 85 (by decide) (by decide)]
  · rw [u 2 (by decide) (by decide), ← h.e 2 j, rS_2, rS_2, hf 5 (by decide), hy 86 (by decide) (by decide)]
  · rw [u 3 (by decide) (by decide), ← h.e 3 j, rS_3, rS_3, hf 7 (by decide), hy 87 (by decide) (by decide)]
  · rw [u 4 (by decide) (by decide), ← h.e 4 j, rS_4, rS_4, hf 9 (by decide), hy 88 (by decide) (by decide)]
  · rw [u 5 (by decide) (by decide)]; exact rs5 h (fun j hj => hf j (by omega)) (hy _ (by decide) (by decide)) j
  · rw [u 6 (by decide) (by decide)]; exact rs6 h (fun j hj => hf j (by omega)) (hf _ (by decide)) (hy _ (by decide) (by decide)) j
  · rw [u 7 (by decide) (by decide)]; exact rs7 h (fun j hj => hf j (by omega)) (hy _ (by decide) (by decide)) (hy _ (by decide) (by decide)) j
  · rw [faS_8, rS_8, h1, if_neg (by omega)]
  · rw [u 9 (by decide) (by decide)]; exact rs9 h (hf _ (by decide)) (hy _ (by decide) (by decide)) j
  · rw [u 10 (by decide) (by decide)]; exact rs10 h (hf _ (by decide)) (hy _ (by decide) (by decide)) j
  · rw [u 11 (by decide) (by decide)]; exact rs11 h (hy _ (by decide) (by decide)) (hy _ (by decide) (by decide)) j
  · rw [hy 84 (by decide) (by decide)]; exact h.2 j
/-- a new telling, laid out -/
def laid (C : Nat → Nat) (D : Nat → Int) (j : Nat) : Int := if j < 12 then 0 else if j < 24 then (if j - 12 < C 1 then D (4 + (4 * (j - 12) + 3)) else 0) else if j < 30 then ((j - 24 : Nat) : Int) else 0
theorem laid_p {C : Nat → Nat} {D : Nat → Int} {b : Nat} (h : b < 12) : laid C D b = 0 := if_pos h
theorem laid_b {C : Nat → Nat} {D : Nat → Int} {b : Nat} (h : b < 12) : laid C D (12 + b) = if b < C 1 then D (4 + (4 * b + 3)) else 0 := by
  unfold laid
  rw [if_neg (show ¬ 12 + b < 12 by omega), if_pos (show 12 + b < 24 by omega), show 12 + b - 12 = b by omega]
theorem laid_o {C : Nat → Nat} {D : Nat → Int} {p : Nat} (h : p < 6) : laid C D (24 + p) = (p : Int) := by
  unfold laid
  rw [if_neg (show ¬ 24 + p < 12 by omega), if_neg (show ¬ 24 + p < 24 by omega), if_pos (show 24 + p < 30 by omega), show 24 + p - 24 = p by omega]
def tS0 (s : XM) (C : Nat → Nat) (D : Nat → Int) (j : Nat) : Int := match j with | 0 => (C 1 : Int) | 1 => (C 2 : Int) | 2 => (C 3 : Int) | 3 => (C 4 : Int) | 4 => if C 0 = 0 then 0 else D 0 | 5 => (C 0 : Int) | 7 => -1 | 10 => s 0 10 | _ => 0
def tS (s : XM) (C : Nat → Nat) (D : Nat → Int) : XM := fun k j => match k with
  | 0 => tS0 s C D j
  | 1 => if j < 4 * C 1 then D (4 + j) else 0
  | 2 => if j < 4 * C 2 then D (52 + j) else 0
  | 3 => if j < 4 * C 3 then D (76 + j) else 0
  | 4 => if j < C 4 then D (96 + 4 * j) else 0
  | 5 => if j < 31 then msk (C 1 : Int) (C 2 : Int) j (laid C D j) else 0
  | _ => 0
theorem tS_5 {s : XM} {C : Nat → Nat} {D : Nat → Int} {j : Nat} : tS s C D 5 j = if j < 31 then msk (C 1 : Int) (C 2 : Int) j (laid C D j) else 0 := rfl
theorem ok_tS {s : XM} {C : Nat → Nat} {D : Nat → Int} (k : Ok s) (hC : ∀ j, j < 5 → C j ≤ tmx j) (hV : VR C D) : Ok (tS s C D) := by
  have c0 : C 0 ≤ 1 := hC 0 (by decide)
  have c1 : C 1 ≤ 12 := hC 1 (by decide)
  have c2 : C 2 ≤ 6 := hC 2 (by decide)
  have c3 : C 3 ≤ 5 := hC 3 (by decide)
  have c4 : C 4 ≤ 5 := hC 4 (by decide)
  have k10 := k.1.2.2.2.2.2.2.2.2.2.2
  have bent : ∀ b, b < C 1 → 0 ≤ D (4 + (4 * b + 3)) ∧ D (4 + (4 * b + 3)) ≤ 1 := fun b hb => by
    have := hV 1 (by decide) b hb 3 (by decide)
    rw [show 4 * (tbk 1 + b) + 3 = 4 + (4 * b + 3) by show 4 * (1 + b) + 3 = _; omega] at this
    exact this
  have e30 : msk (C 1 : Int) (C 2 : Int) 30 (laid C D 30) = 0 := by unfold msk; rw [if_neg (by omega)]; rfl
  refine ⟨⟨?_, ?_, ?_, ?_, ?_, ?_, ?_, ?_, ?_, ?_, ?_⟩, ⟨fun b hb => ?_, fun r hr => ?_, fun c hc => ?_, fun n hn => ?_⟩, ?_, ?_, ?_, ?_, ?_⟩
  · show 0 ≤ (C 1 : Int) ∧ (C 1 : Int) ≤ 12; omega
  · show 0 ≤ (C 2 : Int) ∧ (C 2 : Int) ≤ 6; omega
  · show 0 ≤ (C 3 : Int) ∧ (C 3 : Int) ≤ 5; omega
  · show 0 ≤ (C 4 : Int) ∧ (C 4 : Int) ≤ 5; omega
  · show 0 ≤ (if C 0 = 0 then 0 else D 0) ∧ (if C 0 = 0 then 0 else D 0) ≤ 100
    by_cases c : C 0 = 0
    · rw [if_pos c]; decide
    · rw [if_neg c]
      have := hV 0 (by decide) 0 (by omega) 0 (by decide)
      exact this
  · show (C 0 : Int) = 0 ∨ (C 0 : Int) = 1; omega
  · show (0 : Int) ≤ 0 ∧ (0 : Int) ≤ 240; decide
  · show (-1 : Int) ≤ -1 ∧ (-1 : Int) ≤ 240; decide
  · show (0 : Int) ≤ 0 ∧ (0 : Int) ≤ 16; decide
  · show (0 : Int) ≤ 0 ∧ (0 : Int) ≤ 15; decide
  · exact k10
  · have hb' : b < C 1 := by have : (b : Int) < (C 1 : Int) := hb; omega
    have v := fun m hm => hV 1 (by decide) b hb' m hm
    have e : ∀ m, m < 4 → tS s C D 1 (4 * b + m) = D (4 * (tbk 1 + b) + m) := fun m hm => by
      show (if 4 * b + m < 4 * C 1 then D (4 + (4 * b + m)) else 0) = _
      rw [if_pos (by omega), show 4 + (4 * b + m) = 4 * (tbk 1 + b) + m by show _ = 4 * (1 + b) + m; omega]
    have e0 := e 0 (by decide)
    rw [Nat.add_zero] at e0
    refine ⟨?_, ?_, ?_, ?_⟩
    · rw [e0]; exact v 0 (by decide)
    · rw [e 1 (by decide)]; exact v 1 (by decide)
    · rw [e 2 (by decide)]; exact v 2 (by decide)
    · rw [e 3 (by decide)]; exact v 3 (by decide)
  · have hb' : r < C 2 := by have : (r : Int) < (C 2 : Int) := hr; omega
    have v := fun m hm => hV 2 (by decide) r hb' m hm
    have e : ∀ m, m < 4 → tS s C D 2 (4 * r + m) = D (4 * (tbk 2 + r) + m) := fun m hm => by
      show (if 4 * r + m < 4 * C 2 then D (52 + (4 * r + m)) else 0) = _
      rw [if_pos (by omega), show 52 + (4 * r + m) = 4 * (tbk 2 + r) + m by show _ = 4 * (13 + r) + m; omega]
    have e0 := e 0 (by decide)
    rw [Nat.add_zero] at e0
    refine ⟨?_, ?_, ?_, ?_⟩
    · rw [e0]; exact v 0 (by decide)
    · rw [e 1 (by decide)]; exact v 1 (by decide)
    · rw [e 2 (by decide)]; exact v 2 (by decide)
    · rw [e 3 (by decide)]; exact v 3 (by decide)
  · have hb' : c < C 3 := by have : (c : Int) < (C 3 : Int) := hc; omega
    have v := fun m hm => hV 3 (by decide) c hb' m hm
    have e : ∀ m, m < 4 → tS s C D 3 (4 * c + m) = D (4 * (tbk 3 + c) + m) := fun m hm => by
      show (if 4 * c + m < 4 * C 3 then D (76 + (4 * c + m)) else 0) = _
      rw [if_pos (by omega), show 76 + (4 * c + m) = 4 * (tbk 3 + c) + m by show _ = 4 * (19 + c) + m; omega]
    have e0 := e 0 (by decide)
    rw [Nat.add_zero] at e0
    refine ⟨?_, ?_, ?_, ?_⟩
    · rw [e0]; exact v 0 (by decide)
    · rw [e 1 (by decide)]; exact v 1 (by decide)
    · rw [e 2 (by decide)]; exact v 2 (by decide)
    · rw [e 3 (by decide)]; exact v 3 (by decide)
  · have hb' : n < C 4 := by have : (n : Int) < (C 4 : Int) := hn; omega
    have v := hV 4 (by decide) n hb' 0 (by decide)
    have e : tS s C D 4 n = D (4 * (tbk 4 + n) + 0) := by
      show (if n < C 4 then D (96 + 4 * n) else 0) = _
      rw [if_pos hb', show 96 + 4 * n = 4 * (tbk 4 + n) + 0 by show _ = 4 * (24 + n) + 0; omega]
    rw [e]
    exact v
  · have lo : ∀ j, j < 31 → tS s C D 5 (0 + j) = msk (C 1 : Int) (C 2 : Int) j (laid C D j) := fun j hj => by rw [Nat.zero_add, tS_5, if_pos hj]
    have pl : ∀ b, b < 12 → tS s C D 5 (0 + b) = 0 := fun b hb => by
      rw [lo b (by omega), laid_p hb]
      unfold msk
      split <;> rfl
    have be : ∀ b, b < 12 → tS s C D 5 (0 + 12 + b) = if b < C 1 then D (4 + (4 * b + 3)) else 0 := fun b hb => by
      rw [show 0 + 12 + b = 0 + (12 + b) by omega, lo (12 + b) (by omega), laid_b hb]
      unfold msk
      by_cases c : (C 1 : Int) = 0 ∧ (C 2 : Int) = 0 ∧ 12 + b < 30
      · rw [if_pos c, if_neg (by omega)]
      · rw [if_neg c]
    have od : ∀ p, p < 6 → tS s C D 5 (0 + 24 + p) = if C 1 = 0 ∧ C 2 = 0 then 0 else (p : Int) := fun p hp => by
      rw [show 0 + 24 + p = 0 + (24 + p) by omega, lo (24 + p) (by omega), laid_o hp]
      unfold msk
      by_cases c : C 1 = 0 ∧ C 2 = 0
      · rw [if_pos c, if_pos (by omega)]
      · rw [if_neg c, if_neg (by omega)]
    have q1 : tS s C D 0 1 = (C 2 : Int) := rfl
    refine ⟨fun b hb => by rw [pl b hb]; decide, fun b hb _ => pl b hb, fun b c hb hc h8 _ => ?_, fun b hb => ?_, fun b hb hn => ?_, fun p hp => ?_, fun p hp => ?_, fun p p' hp hp' e => ?_, ?_⟩
    · rw [pl b hb] at h8; omega
    · rw [be b hb]
      by_cases c : b < C 1
      · rw [if_pos c]
        have := bent b c
        omega
      · rw [if_neg c]; exact Or.inl rfl
    · have : (C 1 : Int) ≤ (b : Int) := hn
      rw [be b hb, if_neg (by omega)]
    · rw [od p hp]
      split <;> omega
    · rw [q1] at hp ⊢
      rw [od p (by omega), if_neg (by omega)]
      exact hp
    · rw [q1] at hp hp'
      rw [od p (by omega), od p' (by omega), if_neg (by omega)] at e
      omega
    · rw [show 0 + 30 = 0 + 30 from rfl, lo 30 (by decide), e30]; decide
  · intro i hi
    have : (i : Int) < 0 := hi
    omega
  · intro i hi
    refine Or.inl ?_
    show tS0 s C D (11 + i) = 0
    match i, hi with
    | 0, _ => rfl
    | 1, _ => rfl
  · intro i hi
    have : (i : Int) < 0 := hi
    omega
  · intro i hi
    have : (i : Int) < 0 := hi
    omega
