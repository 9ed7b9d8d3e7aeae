/-! ===== go back; feed ===== -/
def gbS (s : XM) (i : Nat) : XM := fun k j => if k = 5 then (if j < 31 then s 7 (31 * i + j) else 0) else if k = 6 then 0 else if k = 0 ∧ j = 8 then 0 else if k = 0 ∧ j = 10 then s 11 i else s k j
theorem gbS_o {s : XM} {i k j : Nat} (h5 : k ≠ 5) (h6 : k ≠ 6) (h0 : ¬ (k = 0 ∧ (j = 8 ∨ j = 10))) : gbS s i k j = s k j := by
  unfold gbS
  rw [if_neg h5, if_neg h6, if_neg (by omega), if_neg (by omega)]
theorem gbS_5 {s : XM} {i j : Nat} : gbS s i 5 j = if j < 31 then s 7 (31 * i + j) else 0 := rfl
theorem gbS_6 {s : XM} {i j : Nat} : gbS s i 6 j = 0 := rfl
theorem gbS_8 {s : XM} {i : Nat} : gbS s i 0 8 = 0 := rfl
theorem gbS_10 {s : XM} {i : Nat} : gbS s i 0 10 = s 11 i := rfl
theorem Ok.gb {s : XM} {i : Nat} (k : Ok s) (hi : i < 2) (h1 : ¬ s 0 (11 + i) = 0) : Ok (gbS s i) := by
  have hr := k.r
  have hp := k.2.2.2
  have v : ∀ j, j ≠ 8 → j ≠ 10 → gbS s i 0 j = s 0 j := fun j h1 h2 => gbS_o (by decide) (by decide) (by omega)
  rcases hp.2.1 i hi with e | ⟨e1, e2, e3⟩
  · exact absurd e h1
  refine k.g (fun k j hk => gbS_o (by omega) (by omega) (by omega)) (by rw [gbS_8]; decide) (by rw [v 9 (by decide) (by decide)]; exact k.i9) (by rw [gbS_10]; exact e3) (e2.cong (by omega) (v 0 (by decide) (by decide)) (v 1 (by decide) (by decide)) fun c hc => by rw [gbS_5, if_pos (by omega), Nat.zero_add]) ?_ ?_ ?_
  · intro j hj
    rw [gbS_8] at hj
    omega
  · intro c hc
    rw [v (11 + c) (by omega) (by omega), gbS_o (k := 11) (by decide) (by decide) (by omega)]
    rcases hp.2.1 c hc with e | ⟨e1, e2, e3⟩
    · exact Or.inl e
    · exact Or.inr ⟨e1, e2.cong (by omega) (v 0 (by decide) (by decide)) (v 1 (by decide) (by decide)) fun c' hc' => gbS_o (by decide) (by decide) (by omega), e3⟩
  · intro j hj
    rw [v 9 (by decide) (by decide)] at hj
    rw [v 0 (by decide) (by decide), gbS_o (by decide) (by decide) (by omega), gbS_o (by decide) (by decide) (by omega)]
    exact hp.2.2.1 j hj
def uGoB (s : XM) (v : Int) : Int × XM := if 0 ≤ v ∧ v ≤ 1 then (if s 0 (11 + v.toNat) = 0 then (-1000000003, s) else (1, gbS s v.toNat)) else (-1000000001, s)
theorem CF.kept {s x : XM} (h : CF s x) {i : Nat} (hi : i < 2) : x (75 + 4 * i) 2 = s 0 (11 + i) := by
  rcases (show i = 0 ∨ i = 1 by omega) with e | e
  · rw [e]; exact h.e 0 11
  · rw [e]; exact h.e 0 12
theorem RF.kept {s x : XM} (h : RF s x) {i : Nat} (hi : i < 2) : x 97 i = s 0 (11 + i) := by
  rcases (show i = 0 ∨ i = 1 by omega) with e | e
  · rw [e]; exact h.e 0 11
  · rw [e]; exact h.e 0 12
theorem Ok.kept {s : XM} (k : Ok s) {i : Nat} (hi : i < 2) (h : ¬ s 0 (11 + i) = 0) : s 0 (11 + i) = 1 := by
  rcases k.2.2.2.2.1 i hi with e | e
  · exact absurd e h
  · exact e.1
theorem lay_im {i : Nat} (hi : i < 2) : (lay (76 + 4 * i)).1 = 2 := by
  rcases (show i = 0 ∨ i = 1 by omega) with e | e <;> rw [e] <;> decide
theorem C_goBack {s x : XM} {v : Int} {q : Int → XM → Prop} (h : CF s x) (k : Ok s) (hq : ∀ y : XM, CF (uGoB s v).2 y → Ok (uGoB s v).2 → Fr x y → q (uGoB s v).1 y) : M_X10_goBack x v q := by
  unfold uGoB at hq
  refine ⟨fun c => by rw [if_neg (by omega)] at hq; exact hq x h k Fr.rf, fun c => ⟨fun c2 => ⟨⟨by omega, by omega⟩, ?_⟩, fun c2 => by rw [if_neg (by omega)] at hq; exact hq x h k Fr.rf⟩⟩
  rw [if_pos ⟨by omega, by omega⟩] at hq
  obtain ⟨i, rfl⟩ : ∃ i : Nat, v = i := ⟨v.toNat, by omega⟩
  rw [Int.toNat_natCast] at hq ⊢
  have hi : i < 2 := by omega
  rw [h.kept hi]
  refine ⟨fun c3 => ⟨⟨by omega, by omega⟩, ?_⟩, fun c3 => by rw [if_pos c3] at hq; exact hq x h k Fr.rf⟩
  rw [if_neg c3] at hq
  have hq : ∀ y : XM, CF (gbS s i) y → Ok (gbS s i) → Fr x y → q 1 y := hq
  have k1 := k.kept hi c3
  refine s_copyFrom (by omega) fun x6 f1 f2 f3 f4 f5 => ⟨⟨by omega, by omega⟩, fun x8 e8 y ey => ?_⟩
  have s0 : x6 (75 + 4 * i) 1 = s 11 i := by
    rw [f1 _ (by omega) (by omega) (by omega), ← h.e 11 i, cS_11, h.kept hi, if_pos ⟨hi, k1⟩]
  rw [s0] at e8
  have m : ∀ k, k ≠ 10 → k ≠ 63 → k ≠ 4 → k ≠ 5 → k ≠ 6 → y k = x k := fun k h1 h2 h3 h4 h5 => by rw [ey, uX_k h1, e8, uX_k h2, f1 k h3 h4 h5]
  have mi : ∀ k, k = 4 ∨ k = 5 ∨ k = 6 → y k = x6 k := fun k hk => by rw [ey, uX_k (by omega), e8, uX_k (by omega)]
  have y63 : y 63 0 = s 11 i := by rw [ey, uX_k (by decide), e8, uX_eq]
  have y10 : y 10 2 = 0 ∧ y 10 1 = x 10 1 := by
    constructor
    · rw [ey, uX_eq]
    · rw [ey, uX_j (by decide), e8, uX_k (by decide), f1 10 (by omega) (by omega) (by omega)]
  have hs : ∀ j, snap y 4 j = snap x (76 + 4 * i) j := fun j => by
    refine snap_cong (fun c hc => ?_) (fun c hc => ?_) ?_ ?_
    · rw [mi _ (by omega), show 76 + 4 * i + 1 = 75 + 4 * i + 1 + 1 by omega]; exact f2 c hc
    · rw [mi _ (by omega), show 76 + 4 * i + 2 = 75 + 4 * i + 1 + 2 by omega]; exact f3 c hc
    · rw [mi _ (by omega), show 76 + 4 * i = 75 + 4 * i + 1 by omega]; exact f4
    · rw [mi _ (by omega), show 76 + 4 * i = 75 + 4 * i + 1 by omega]; exact f5
  have o : ∀ {k j}, k ≠ 5 → k ≠ 6 → ¬ (k = 0 ∧ (j = 8 ∨ j = 10)) → gbS s i k j = s k j := fun h1 h2 h3 => gbS_o h1 h2 h3
  have tt := told_e (x := x) (y := y) (fun k hk => m k (by omega) (by omega) (by omega) (by omega) (by omega))
  have t0 : y (tid (y 3 1) + 1) 1 = s 0 0 := by rw [tt]; exact h.e 0 0
  have t1 : y (tid (y 3 1) + 1) 2 = s 0 1 := by rw [tt]; exact h.e 0 1
  refine hq y (h.g (fun k hk => m k (by omega) (by omega) (by omega) (by omega) (by omega)) ⟨fun kc hk => ?_, by rw [y10.2]; exact h.2.2.2.1, by rw [y10.2]; exact h.2.2.2.2⟩ (fun k j hk => o (by omega) (by omega) (by omega)) ?_ ?_ ?_ ?_ ?_ ?_ ?_ ?_ ?_ ?_ ?_) (k.gb hi c3) fun k hk => m k (by omega) (by omega) (by omega) (by omega) (by omega)
  · have l2 := lay2' hk
    by_cases c : kc = 4
    · have c4 := h.2.2.1 (76 + 4 * i) (lay_im hi)
      rw [show 76 + 4 * i = 75 + 4 * i + 1 by omega] at c4
      rw [c]
      refine ⟨fun b hb => ?_, ?_⟩
      · rw [mi _ (by omega), f2 b hb]; exact c4.1 b hb
      · rw [mi _ (by omega), f4]; exact c4.2
    · unfold CK
      rw [m (kc + 1) (by omega) (by omega) (by omega) (by omega) (by omega), m kc (by omega) (by omega) (by omega) (by omega) (by omega)]
      exact h.2.2.1 kc hk
  · rw [y10.1, gbS_8]
  · rw [m 60 (by decide) (by decide) (by decide) (by decide) (by decide), o (by decide) (by decide) (by omega)]; exact h.e 0 9
  · rw [y63, gbS_10]
  · rw [m 75 (by decide) (by decide) (by decide) (by decide) (by decide), o (by decide) (by decide) (by omega)]; exact h.e 0 11
  · rw [m 79 (by decide) (by decide) (by decide) (by decide) (by decide), o (by decide) (by decide) (by omega)]; exact h.e 0 12
  · intro j
    rw [cS_5, gbS_5, t0, t1]
    by_cases c : j < 31
    · rw [if_pos c, if_pos c, hs, ← h.e 7 (31 * i + j), cS_7, show (31 * i + j) / 31 = i by omega, show (31 * i + j) % 31 = j by omega, h.kept hi, if_pos ⟨by omega, k1⟩, show x (tid (x 3 1) + 1) 1 = s 0 0 from h.e 0 0, show x (tid (x 3 1) + 1) 2 = s 0 1 from h.e 0 1]
    · rw [if_neg c, if_neg c]
  · intro j
    rw [cS_6, y10.1, gbS_6, if_neg (by omega)]
  · intro j; rw [o (by decide) (by decide) (by omega)]; exact cs7 h (fun k hk => m k (by omega) (by omega) (by omega) (by omega) (by omega)) (fun k h1 h2 => m k (by omega) (by omega) (by omega) (by omega) (by omega)) j
  · intro j; rw [o (by decide) (by decide) (by omega)]; exact cs9 h (m _ (by decide) (by decide) (by decide) (by decide) (by decide)) (m _ (by decide) (by decide) (by decide) (by decide) (by decide)) j
  · intro j; rw [o (by decide) (by decide) (by omega)]; exact cs10 h (m _ (by decide) (by decide) (by decide) (by decide) (by decide)) (m _ (by decide) (by decide) (by decide) (by decide) (by decide)) j
  · intro j; rw [o (by decide) (by decide) (by omega)]; exact cs11 h (fun k h1 h2 => m k (by omega) (by omega) (by omega) (by omega) (by omega)) j
theorem r_goBack_26 {x : XM} {q : Int → XM → Prop} {i : Nat} (hi : i < 2) (hq : q 1 (uX (uX (cpY x 95 (31 * i) 31) 83 31 (x 96 i)) 83 27 0)) (n : Nat) : ∀ c, c ≤ 31 → 31 < c + n → M_X11_goBack_26 q n (cpY x 95 (31 * i) c) (i : Int) (c : Int) := by
  induction n with
  | zero => intro c h1 h2; omega
  | succ n ih =>
    intro c a1 a2
    unfold M_X11_goBack_26
    rw [Int.toNat_natCast, Int.toNat_natCast, show (31 * (i : Int) + c).toNat = 31 * i + c by omega]
    refine ⟨fun d => ⟨⟨by omega, by omega⟩, fun x7 e7 x8 e8 => ?_⟩, fun d => ⟨⟨by omega, by omega⟩, ⟨by omega, by omega⟩, fun y ey => ⟨rg1 (by omega), ?_⟩⟩⟩
    · rw [e8, e7, show c = 31 by omega]
      have : cpY x 95 (31 * i) 31 96 i = x 96 i := by rw [cpY_k (by decide)]
      rw [this]
      exact hq
    · rw [cpY_s (by decide)] at ey
      rw [ey]
      exact ih (c + 1) (by omega) (by omega)
theorem R_goBack {s x : XM} {v : Int} {q : Int → XM → Prop} (h : RF s x) (k : Ok s) (hq : ∀ y : XM, RF (uGoB s v).2 y → Gr x y → q (uGoB s v).1 y) : M_X11_goBack x v q := by
  unfold uGoB at hq
  refine r_in ?_
  by_cases c : 0 ≤ v ∧ v ≤ 1
  · rw [if_pos c] at hq ⊢
    refine jT (by decide) ⟨⟨by omega, by omega⟩, ?_⟩
    obtain ⟨i, rfl⟩ : ∃ i : Nat, v = i := ⟨v.toNat, by omega⟩
    rw [Int.toNat_natCast] at hq ⊢
    have hi : i < 2 := by omega
    rw [h.kept hi]
    refine ⟨fun c3 => ⟨32, ?_⟩, fun c3 => by rw [if_pos c3] at hq; exact hq x h Gr.rf⟩
    rw [if_neg c3] at hq
    have k1 := k.kept hi c3
    have hq : ∀ y : XM, RF (gbS s i) y → Gr x y → q 1 y := hq
    have := r_goBack_26 (x := x) (q := q) hi ?_ 32 0 (by decide) (by decide)
    · rw [cpY_0] at this
      exact this
    · have e10 : x 96 i = s 11 i := by rw [← h.e 11 i, rS_11, h.kept hi, if_pos ⟨hi, k1⟩]
      rw [e10]
      generalize hy : uX (uX (cpY x 95 (31 * i) 31) 83 31 (s 11 i)) 83 27 0 = y
      have m : ∀ k, k ≠ 83 → k ≠ 93 → y k = x k := fun k h1 h2 => by rw [← hy, uX_k h1, uX_k h1, cpY_k h2]
      have m83 : ∀ j, j ≠ 27 → j ≠ 31 → y 83 j = x 83 j := fun j hj h2 => by rw [← hy, uX_j hj, uX_j h2, cpY_k (by decide)]
      have m27 : y 83 27 = 0 := by rw [← hy, uX_eq]
      have m31 : y 83 31 = s 11 i := by rw [← hy, uX_j (by decide), uX_eq]
      have m93 : ∀ j, j < 31 → y 93 j = x 95 (31 * i + j) := fun j hj => by
        rw [← hy, uX_k (by decide), uX_k (by decide)]
        exact if_pos ⟨rfl, hj⟩
      have o : ∀ {k j}, k ≠ 5 → k ≠ 6 → ¬ (k = 0 ∧ (j = 8 ∨ j = 10)) → gbS s i k j = s k j := fun h1 h2 h3 => gbS_o h1 h2 h3
      refine hq y (h.g (fun k hk => m k (by omega) (by omega)) (fun j hj => m83 j (by omega) (by omega)) (fun k j hk => o (by omega) (by omega) (by omega)) ?_ ?_ ?_ ?_ ?_ ?_ ?_ ?_ ?_ ?_ ?_) fun k hk => m k (by omega) (by omega)
      · rw [m27, gbS_8]
      · rw [m83 38 (by decide) (by decide), o (by decide) (by decide) (by omega)]; exact h.e 0 9
      · rw [m31, gbS_10]
      · rw [m 97 (by decide) (by decide), o (by decide) (by decide) (by omega)]; exact h.e 0 11
      · rw [m 97 (by decide) (by decide), o (by decide) (by decide) (by omega)]; exact h.e 0 12
      · intro j
        rw [rS_5, gbS_5, m83 3 (by decide) (by decide), m83 5 (by decide) (by decide), show x 83 3 = s 0 0 from h.e 0 0, show x 83 5 = s 0 1 from h.e 0 1]
        by_cases c : j < 31
        · rw [if_pos c, if_pos c, m93 j c, ← h.e 7 (31 * i + j), rS_7, show (31 * i + j) / 31 = i by omega, h.kept hi, if_pos ⟨by omega, k1⟩, show x 83 3 = s 0 0 from h.e 0 0, show x 83 5 = s 0 1 from h.e 0 1, show (31 * i + j) % 31 = j by omega]
        · rw [if_neg c, if_neg c]
      · intro j
        rw [rS_6, m27, gbS_6, if_neg (by omega)]
      · intro j; rw [o (by decide) (by decide) (by omega)]; exact rs7 h (fun j hj => m83 j (by omega) (by omega)) (m _ (by decide) (by decide)) (m _ (by decide) (by decide)) j
      · intro j; rw [o (by decide) (by decide) (by omega)]; exact rs9 h (m83 _ (by decide) (by decide)) (m _ (by decide) (by decide)) j
      · intro j; rw [o (by decide) (by decide) (by omega)]; exact rs10 h (m83 _ (by decide) (by decide)) (m _ (by decide) (by decide)) j
      · intro j; rw [o (by decide) (by decide) (by omega)]; exact rs11 h (m _ (by decide) (by decide)) (m _ (by decide) (by decide)) j
  · rw [if_neg c] at hq ⊢
    exact jF rfl (hq x h Gr.rf)
/-- one letter more -/
def feS (s : XM) (v : Int) : XM := fun k j => if k = 8 ∧ (j : Int) = s 0 6 then v else if k = 0 ∧ j = 6 then s 0 6 + 1 else s k j
theorem feS_o {s : XM} {v : Int} {k j : Nat} (h8 : k ≠ 8) (h0 : ¬ (k = 0 ∧ j = 6)) : feS s v k j = s k j := by
  unfold feS
  rw [if_neg (by omega), if_neg h0]
theorem feS_k {s : XM} {v : Int} {k : Nat} (h8 : k ≠ 8) (h0 : k ≠ 0) : feS s v k = s k := funext fun _ => feS_o h8 (by omega)
theorem feS_6 {s : XM} {v : Int} : feS s v 0 6 = s 0 6 + 1 := by
  unfold feS
  rw [if_neg (by omega), if_pos ⟨rfl, rfl⟩]
theorem feS_8 {s : XM} {v : Int} {j : Nat} : feS s v 8 j = if (j : Int) = s 0 6 then v else s 8 j := by
  unfold feS
  by_cases c : (j : Int) = s 0 6
  · rw [if_pos ⟨rfl, c⟩, if_pos c]
  · rw [if_neg (by omega), if_neg (by omega), if_neg c]
theorem Ok.i6 {s : XM} (k : Ok s) : 0 ≤ s 0 6 ∧ s 0 6 ≤ 240 := k.1.2.2.2.2.2.2.1
theorem Ok.fe {s : XM} {v : Int} (k : Ok s) (h : s 0 6 < 240) (hv : 0 ≤ v ∧ v ≤ 255) : Ok (feS s v) := by
  have h6 := k.i6
  have hr := k.r
  obtain ⟨k1, k2, k3, k4, k5, k6, k7⟩ := k
  obtain ⟨a0, a1, a2, a3, a4, a5, a6, a7, a8, a9, a10⟩ := k1
  have w : ∀ j, j ≠ 6 → feS s v 0 j = s 0 j := fun j hj => feS_o (by decide) (by omega)
  have u : ∀ k, k ≠ 8 → k ≠ 0 → feS s v k = s k := fun k h1 h2 => feS_k h1 h2
  refine ⟨?_, ?_, ?_, ?_, ?_, ?_, ?_⟩
  · unfold OkN
    rw [w 0 (by decide), w 1 (by decide), w 2 (by decide), w 3 (by decide), w 4 (by decide), w 5 (by decide), feS_6, w 7 (by decide), w 8 (by decide), w 9 (by decide), w 10 (by decide)]
    exact ⟨a0, a1, a2, a3, a4, a5, by omega, a7, a8, a9, a10⟩
  · unfold OkT MkOk RuOk
    rw [w 0 (by decide), w 1 (by decide), w 2 (by decide), w 3 (by decide), u 1 (by decide) (by decide), u 2 (by decide) (by decide), u 3 (by decide) (by decide), u 4 (by decide) (by decide)]
    exact k2
  · exact k3.cong (by omega) (w 0 (by decide)) (w 1 (by decide)) fun c hc => feS_o (by decide) (by omega)
  · intro i hi
    rw [w 8 (by decide)] at hi
    exact (k4 i hi).cong (by omega) (w 0 (by decide)) (w 1 (by decide)) fun c hc => feS_o (by decide) (by omega)
  · intro i hi
    rw [w (11 + i) (by omega), u 11 (by decide) (by decide)]
    rcases k5 i hi with e | ⟨e1, e2, e3⟩
    · exact Or.inl e
    · exact Or.inr ⟨e1, e2.cong (by omega) (w 0 (by decide)) (w 1 (by decide)) fun c hc => feS_o (by decide) (by omega), e3⟩
  · intro i hi
    rw [w 9 (by decide)] at hi
    rw [w 0 (by decide), u 9 (by decide) (by decide), u 10 (by decide) (by decide)]
    exact k6 i hi
  · intro i hi
    rw [feS_6] at hi
    rw [feS_8]
    by_cases c : (i : Int) = s 0 6
    · rw [if_pos c]; exact hv
    · rw [if_neg c]; exact k7 i (by omega)
theorem CF.fe {s x y : XM} {v : Int} {n : Nat} (h : CF s x) (hn : s 0 6 = (n : Int)) (hy : ∀ k, k ≠ 1 → k ≠ 2 → y k = x k) (h1 : y 1 1 = s 0 6 + 1) (h2 : ∀ j, y 2 j = if j = n then v else x 2 j) : CF (feS s v) y := by
  have e3 := hy 3 (by decide) (by decide)
  have et1 : y (tid (y 3 1) + 1) = x (tid (x 3 1) + 1) := by rw [e3]; rcases tid_c (x 3 1) with e | e <;> rw [e] <;> exact hy _ (by decide) (by decide)
  have et2 : y (tid (y 3 1) + 2) = x (tid (x 3 1) + 2) := by rw [e3]; rcases tid_c (x 3 1) with e | e <;> rw [e] <;> exact hy _ (by decide) (by decide)
  have u : ∀ k, k ≠ 8 → k ≠ 0 → feS s v k = s k := fun k h1 h2 => feS_k h1 h2
  refine ⟨cS_ext (lt12 ?_ ?_ ?_ ?_ ?_ ?_ ?_ ?_ ?_ ?_ ?_ ?_) fun k hk j => by rw [feS_o (by omega) (by omega), h.z hk], ?_⟩
  all_goals try intro j
  · by_cases c : j = 6
    · rw [c, feS_6]
      exact h1
    · rw [feS_o (by decide) (by omega), ← h.e 0 j, cS_0, cS_0]
      unfold cS0
      rw [et1, et2, hy 0 (by decide) (by decide), hy 10 (by decide) (by decide), hy 60 (by decide) (by decide), hy 63 (by decide) (by decide), hy 75 (by decide) (by decide), hy 79 (by decide) (by decide)]
      match j, c with
      | 0, _ | 1, _ | 2, _ | 3, _ | 4, _ | 5, _ | 7, _ | 8, _ | 9, _ | 10, _ | 11, _ | 12, _ => rfl
      | n + 13, _ => rfl
  · rw [u 1 (by decide) (by decide), ← h.e 1 j, cS_1, cS_1, et1, et2]
  · rw [u 2 (by decide) (by decide), ← h.e 2 j, cS_2, cS_2, et1, et2]
  · rw [u 3 (by decide) (by decide), ← h.e 3 j, cS_3, cS_3, et1, et2]
  · rw [u 4 (by decide) (by decide), ← h.e 4 j, cS_4, cS_4, et1, et2]
  · rw [u 5 (by decide) (by decide)]; exact cs5 h (fun k hk => hy k (by omega) (by omega)) (hy _ (by decide) (by decide)) (hy _ (by decide) (by decide)) (hy _ (by decide) (by decide)) j
  · rw [u 6 (by decide) (by decide)]; exact cs6 h (fun k hk => hy k (by omega) (by omega)) (hy _ (by decide) (by decide)) (fun k h1 h2 => hy k (by omega) (by omega)) j
  · rw [u 7 (by decide) (by decide)]; exact cs7 h (fun k hk => hy k (by omega) (by omega)) (fun k h1 h2 => hy k (by omega) (by omega)) j
  · rw [feS_8, cS_8, h1, h2, ← h.e 8 j, cS_8, show x 1 1 = s 0 6 from h.e 0 6]
    by_cases c : j = n
    · rw [if_pos c, if_pos (by omega), if_pos (by omega)]
    · rw [if_neg c, if_neg (show ¬ (j : Int) = s 0 6 by omega)]
      by_cases d : (j : Int) < s 0 6
      · rw [if_pos d, if_pos (by omega)]
      · rw [if_neg d, if_neg (by omega)]
  · rw [u 9 (by decide) (by decide)]; exact cs9 h (hy _ (by decide) (by decide)) (hy _ (by decide) (by decide)) j
  · rw [u 10 (by decide) (by decide)]; exact cs10 h (hy _ (by decide) (by decide)) (hy _ (by decide) (by decide)) j
  · rw [u 11 (by decide) (by decide)]; exact cs11 h (fun k h1 h2 => hy k (by omega) (by omega)) j
  · obtain ⟨h1, h2, h3, h4⟩ := h.2
    refine ⟨by rw [e3, hy 0 (by decide) (by decide)]; exact h1, fun kc hk => ?_, by rw [hy 10 (by decide) (by decide)]; exact h3, by rw [hy 10 (by decide) (by decide)]; exact h4⟩
    have := lay2' hk
    unfold CK
    rw [hy (kc + 1) (by omega) (by omega), hy kc (by omega) (by omega)]
    exact h2 kc hk
theorem ji2b_b : ∀ v : Nat, v < 256 → -128 ≤ ji2b (v : Int) ∧ ji2b (v : Int) < 128 ∧ ji2b (v : Int) % 256 = (v : Int) := by decide +kernel
theorem RF.fe {s x y : XM} {v : Int} {n : Nat} (h : RF s x) (hn : s 0 6 = (n : Int)) (hv : 0 ≤ v ∧ v ≤ 255) (hy : ∀ k, 83 < k → k ≠ 84 → y k = x k) (hf : ∀ j, j ≠ 1 → y 83 j = x 83 j) (h1 : y 83 1 = s 0 6 + 1) (h2 : ∀ j, y 84 j = if j = n then ji2b v else x 84 j) : RF (feS s v) y := by
  have u : ∀ k, k ≠ 8 → k ≠ 0 → feS s v k = s k := fun k h1 h2 => feS_k h1 h2
  have jb := ji2b_b v.toNat (by omega)
  rw [show ((v.toNat : Nat) : Int) = v by omega] at jb
  refine ⟨rS_ext (lt12 ?_ ?_ ?_ ?_ ?_ ?_ ?_ ?_ ?_ ?_ ?_ ?_) fun k hk j => by rw [feS_o (by omega) (by omega), h.z hk], ?_⟩
  all_goals intro j
  · by_cases c : j = 6
    · rw [c, feS_6]
      exact h1
    · rw [feS_o (by decide) (by omega), ← h.e 0 j, rS_0, rS_0]
      unfold rS0
      rw [hf 3 (by decide), hf 5 (by decide), hf 7 (by decide), hf 9 (by decide), hf 2 (by decide), hf 20 (by decide), hf 21 (by decide), hf 27 (by decide), hf 38 (by decide), hf 31 (by decide), hy 97 (by decide) (by decide)]
      match j, c with
      | 0, _ | 1, _ | 2, _ | 3, _ | 4, _ | 5, _ | 7, _ | 8, _ | 9, _ | 10, _ | 11, _ | 12, _ => rfl
      | n + 13, _ => rfl
  · rw [u 1 (by decide) (by decide), ← h.e 1 j, rS_1, rS_1, hf 3 (by decide), hy 85 (by decide) (by decide)]
  · rw [u 2 (by decide) (by decide), ← h.e 2 j, rS_2, rS_2, hf 5 (by decide), hy 86 (by decide) (by decide)]
  · rw [u 3 (by decide) (by decide), ← h.e 3 j, rS_3, rS_3, hf 7 (by decide), hy 87 (by decide) (by decide)]
  · rw [u 4 (by decide) (by decide), ← h.e 4 j, rS_4, rS_4, hf 9 (by decide), hy 88 (by decide) (by decide)]
  · rw [u 5 (by decide) (by decide)]; exact rs5 h (fun j hj => hf j (by omega)) (hy _ (by decide) (by decide)) j
  · rw [u 6 (by decide) (by decide)]; exact rs6 h (fun j hj => hf j (by omega)) (hf _ (by decide)) (hy _ (by decide) (by decide)) j
  · rw [u 7 (by decide) (by decide)]; exact rs7 h (fun j hj => hf j (by omega)) (hy _ (by decide) (by decide)) (hy _ (by decide) (by decide)) j
  · rw [feS_8, rS_8, h1, h2, ← h.e 8 j, rS_8, show x 83 1 = s 0 6 from h.e 0 6]
    by_cases c : j = n
    · rw [if_pos c, if_pos (by omega), if_pos (by omega)]
      exact jb.2.2
    · rw [if_neg c, if_neg (show ¬ (j : Int) = s 0 6 by omega)]
      by_cases d : (j : Int) < s 0 6
      · rw [if_pos d, if_pos (by omega)]
      · rw [if_neg d, if_neg (by omega)]
  · rw [u 9 (by decide) (by decide)]; exact rs9 h (hf _ (by decide)) (hy _ (by decide) (by decide)) j
  · rw [u 10 (by decide) (by decide)]; exact rs10 h (hf _ (by decide)) (hy _ (by decide) (by decide)) j
  · rw [u 11 (by decide) (by decide)]; exact rs11 h (hy _ (by decide) (by decide)) (hy _ (by decide) (by decide)) j
  · rw [h2]
    by_cases c : j = n
    · rw [if_pos c]; exact ⟨jb.1, jb.2.1⟩
    · rw [if_neg c]; exact h.2 j
def uFee (s : XM) (v : Int) : Int × XM := if 0 ≤ v ∧ v ≤ 255 then (if s 0 6 = 240 then (-1000000004, s) else (s 0 6 + 1, feS s v)) else (-1000000002, s)
theorem C_feed {s x : XM} {v : Int} {q : Int → XM → Prop} (h : CF s x) (k : Ok s) (hq : ∀ y : XM, CF (uFee s v).2 y → Ok (uFee s v).2 → Fr x y → q (uFee s v).1 y) : M_X10_feed x v q := by
  have h6 := k.i6
  have e6 : x 1 1 = s 0 6 := h.e 0 6
  unfold uFee at hq
  unfold M_X10_feed
  rw [e6]
  refine ⟨fun c => by rw [if_neg (by omega)] at hq; exact hq x h k Fr.rf, fun c => ⟨fun c2 => ⟨fun c3 => ?_, fun c3 => ?_⟩, fun c2 => by rw [if_neg (by omega)] at hq; exact hq x h k Fr.rf⟩⟩
  · rw [if_pos ⟨by omega, c2⟩, if_neg (by omega)] at hq
    obtain ⟨n, hn⟩ : ∃ n : Nat, s 0 6 = (n : Int) := ⟨(s 0 6).toNat, by omega⟩
    unfold M_X8_add
    rw [e6, hn, Int.toNat_natCast]
    refine ⟨⟨by omega, by omega⟩, fun x2 e2 => ?_⟩
    have f2 : x2 1 1 = (n : Int) := by rw [e2, uX_k (by decide), e6, hn]
    rw [f2]
    refine ⟨rg1 (by omega), fun x4 e4 => ?_⟩
    have f4 : x4 1 1 = (n : Int) + 1 := by rw [e4, uX_eq]
    have := hq x4 (h.fe hn (fun k h1 h2 => by rw [e4, uX_k h1, e2, uX_k h2]) (by rw [f4, hn]) (fun j => by rw [e4, uX_k (by decide), e2, uX_at])) (k.fe (by omega) ⟨by omega, c2⟩) fun k hk => by rw [e4, uX_k (by omega), e2, uX_k (by omega)]
    show q (x4 1 1) x4
    rw [f4, ← hn]
    exact this
  · rw [if_pos ⟨by omega, c2⟩, if_pos (by omega)] at hq
    exact hq x h k Fr.rf
theorem R_feed {s x : XM} {v : Int} {q : Int → XM → Prop} (h : RF s x) (k : Ok s) (hq : ∀ y : XM, RF (uFee s v).2 y → Gr x y → q (uFee s v).1 y) : M_X11_feed x v q := by
  have h6 := k.i6
  have e6 : x 83 1 = s 0 6 := h.e 0 6
  unfold uFee at hq
  refine r_in ?_
  by_cases c : 0 ≤ v ∧ v ≤ 255
  · rw [if_pos c] at hq ⊢
    rw [e6]
    refine jT (by decide) ⟨fun c3 => ?_, fun c3 => by rw [if_pos c3] at hq; exact hq x h Gr.rf⟩
    rw [if_neg c3] at hq
    obtain ⟨n, hn⟩ : ∃ n : Nat, s 0 6 = (n : Int) := ⟨(s 0 6).toNat, by omega⟩
    rw [hn, Int.toNat_natCast]
    refine ⟨⟨by omega, by omega⟩, fun x2 e2 => ?_⟩
    have f2 : x2 83 1 = (n : Int) := by rw [e2, uX_k (by decide), e6, hn]
    rw [f2]
    refine ⟨rg1 (by omega), fun x4 e4 => ?_⟩
    have f4 : x4 83 1 = (n : Int) + 1 := by rw [e4, uX_eq]
    have := hq x4 (h.fe hn c (fun k h1 h2 => by rw [e4, uX_k (by omega), e2, uX_k (by omega)]) (fun j hj => by rw [e4, uX_j hj, e2, uX_k (by decide)]) (by rw [f4, hn]) (fun j => by rw [e4, uX_k (by decide), e2, uX_at])) fun k hk => by rw [e4, uX_k (by omega), e2, uX_k (by omega)]
    rw [f4, ← hn]
    exact this
  · rw [if_neg c] at hq ⊢
    exact jF rfl (hq x h Gr.rf)
