/-! ===== images kept, images gone back to ===== -/
def keS (s : XM) (i : Nat) : XM := fun k j => if k = 7 ∧ 31 * i ≤ j ∧ j < 31 * i + 31 then s 5 (j - 31 * i) else if k = 11 ∧ j = i then s 0 10 else if k = 6 then 0 else if k = 0 ∧ j = 11 + i then 1 else if k = 0 ∧ j = 8 then 0 else s k j
theorem keS_o {s : XM} {i k j : Nat} (h6 : k ≠ 6) (h7 : k ≠ 7) (h11 : k ≠ 11) (h0 : ¬ (k = 0 ∧ (j = 11 + i ∨ j = 8))) : keS s i k j = s k j := by
  unfold keS
  rw [if_neg (by omega), if_neg (by omega), if_neg (by omega), if_neg (by omega), if_neg (by omega)]
theorem keS_7 {s : XM} {i j : Nat} : keS s i 7 j = if 31 * i ≤ j ∧ j < 31 * i + 31 then s 5 (j - 31 * i) else s 7 j := by
  unfold keS
  by_cases c : 31 * i ≤ j ∧ j < 31 * i + 31
  · rw [if_pos (by omega), if_pos c]
  · rw [if_neg (by omega), if_neg c, if_neg (by omega), if_neg (by omega), if_neg (by omega), if_neg (by omega)]
theorem keS_11 {s : XM} {i j : Nat} : keS s i 11 j = if j = i then s 0 10 else s 11 j := by
  unfold keS
  by_cases c : j = i
  · rw [if_neg (by omega), if_pos (by omega), if_pos c]
  · rw [if_neg (by omega), if_neg (by omega), if_neg c, if_neg (by omega), if_neg (by omega), if_neg (by omega)]
theorem keS_6 {s : XM} {i j : Nat} : keS s i 6 j = 0 := by
  unfold keS
  rw [if_neg (by omega), if_neg (by omega), if_pos rfl]
theorem keS_8 {s : XM} {i : Nat} : keS s i 0 8 = 0 := by
  unfold keS
  rw [if_neg (by omega), if_neg (by omega), if_neg (by omega), if_neg (by omega), if_pos (by omega)]
theorem keS_k {s : XM} {i c : Nat} (hc : c = 0 ∨ c = 1) : keS s i 0 (11 + c) = if c = i then 1 else s 0 (11 + c) := by
  unfold keS
  by_cases d : c = i
  · rw [if_neg (by omega), if_neg (by omega), if_neg (by omega), if_pos (by omega), if_pos d]
  · rw [if_neg (by omega), if_neg (by omega), if_neg (by omega), if_neg (by omega), if_neg (by omega), if_neg d]
theorem Ok.ke {s : XM} {i : Nat} (k : Ok s) (hi : i < 2) : Ok (keS s i) := by
  have hr := k.r
  have hp := k.2.2.2
  have v : ∀ j, j < 8 ∨ j = 9 ∨ j = 10 → keS s i 0 j = s 0 j := fun j hj => keS_o (by decide) (by decide) (by decide) (by omega)
  refine k.g (fun k j hk => keS_o (by omega) (by omega) (by omega) (by omega)) (by rw [keS_8]; decide) (by rw [v 9 (by decide)]; exact k.i9) (by rw [v 10 (by decide)]; exact k.sd) (k.sn.cong (by omega) (v 0 (by decide)) (v 1 (by decide)) fun c hc => keS_o (by decide) (by decide) (by decide) (by omega)) ?_ ?_ ?_
  · intro j hj
    rw [keS_8] at hj
    omega
  · intro c hc
    rw [keS_k (by omega), keS_11]
    by_cases d : c = i
    · rw [if_pos d, if_pos d]
      refine Or.inr ⟨rfl, k.sn.cong (by omega) (v 0 (by decide)) (v 1 (by decide)) fun c' hc' => ?_, k.sd⟩
      rw [keS_7, if_pos (by omega), d, show 31 * i + c' - 31 * i = 0 + c' by omega]
    · rw [if_neg d, if_neg d]
      rcases hp.2.1 c hc with e | ⟨e1, e2, e3⟩
      · exact Or.inl e
      · refine Or.inr ⟨e1, e2.cong (by omega) (v 0 (by decide)) (v 1 (by decide)) fun c' hc' => ?_, e3⟩
        rw [keS_7, if_neg (by omega)]
  · intro j hj
    rw [v 9 (by decide)] at hj
    rw [v 0 (by decide), keS_o (by decide) (by decide) (by decide) (by omega), keS_o (by decide) (by decide) (by decide) (by omega)]
    exact hp.2.2.1 j hj
def uKee (s : XM) (v : Int) : Int × XM := if 0 ≤ v ∧ v ≤ 1 then (1, keS s v.toNat) else (-1000000001, s)
theorem snap_k {x y : XM} {kc j : Nat} (h0 : y kc = x kc) (h1 : y (kc + 1) = x (kc + 1)) (h2 : y (kc + 2) = x (kc + 2)) : snap y kc j = snap x kc j := by
  unfold snap
  rw [h0, h1, h2]
theorem C_keep {s x : XM} {v : Int} {q : Int → XM → Prop} (h : CF s x) (k : Ok s) (hq : ∀ y : XM, CF (uKee s v).2 y → Ok (uKee s v).2 → Fr x y → q (uKee s v).1 y) : M_X10_keep x v q := by
  unfold uKee at hq
  refine ⟨fun c => by rw [if_neg (by omega)] at hq; exact hq x h k Fr.rf, fun c => ⟨fun c2 => ⟨⟨by omega, by omega⟩, ?_⟩, fun c2 => by rw [if_neg (by omega)] at hq; exact hq x h k Fr.rf⟩⟩
  rw [if_pos ⟨by omega, by omega⟩] at hq
  obtain ⟨i, rfl⟩ : ∃ i : Nat, v = i := ⟨v.toNat, by omega⟩
  rw [Int.toNat_natCast] at hq ⊢
  have hi : i < 2 := by omega
  have hq : ∀ y : XM, CF (keS s i) y → Ok (keS s i) → Fr x y → q 1 y := hq
  refine s_copyFrom (by omega) fun x4 f1 f2 f3 f4 f5 => ⟨⟨by omega, by omega⟩, fun x6 e6 => ⟨⟨by omega, by omega⟩, fun x8 e8 y ey => ?_⟩⟩
  have s0 : x4 63 0 = s 0 10 := by rw [f1 63 (by omega) (by omega) (by omega)]; exact h.e 0 10
  rw [s0] at e6
  have m : ∀ k, k ≠ 10 → (k < 75 + 4 * i ∨ 79 + 4 * i ≤ k) → y k = x k := fun k h1 h2 => by rw [ey, uX_k h1, e8, uX_k (by omega), e6, uX_k (by omega), f1 k (by omega) (by omega) (by omega)]
  have mi : ∀ k, (k = 75 + 4 * i + 1 ∨ k = 75 + 4 * i + 2 ∨ k = 75 + 4 * i + 3) → y k = x4 k := fun k hk => by rw [ey, uX_k (by omega), e8, uX_k (by omega), e6, uX_k (by omega)]
  have k1 : y (75 + 4 * i) 1 = s 0 10 := by rw [ey, uX_k (by omega), e8, uX_j (by decide), e6, uX_eq]
  have k2 : y (75 + 4 * i) 2 = 1 := by rw [ey, uX_k (by omega), e8, uX_eq]
  have y10 : y 10 2 = 0 ∧ y 10 1 = x 10 1 := by
    constructor
    · rw [ey, uX_eq]
    · rw [ey, uX_j (by decide), e8, uX_k (by omega), e6, uX_k (by omega), f1 10 (by omega) (by omega) (by omega)]
  have hs : ∀ j, snap y (76 + 4 * i) j = snap x 4 j := fun j => by
    refine snap_cong (fun c hc => ?_) (fun c hc => ?_) ?_ ?_
    · rw [show 76 + 4 * i + 1 = 75 + 4 * i + 1 + 1 by omega, mi _ (by omega)]; exact f2 c hc
    · rw [show 76 + 4 * i + 2 = 75 + 4 * i + 1 + 2 by omega, mi _ (by omega)]; exact f3 c hc
    · rw [show 76 + 4 * i = 75 + 4 * i + 1 by omega, mi _ (by omega)]; exact f4
    · rw [show 76 + 4 * i = 75 + 4 * i + 1 by omega, mi _ (by omega)]; exact f5
  have o : ∀ {k j}, k ≠ 6 → k ≠ 7 → k ≠ 11 → ¬ (k = 0 ∧ (j = 11 + i ∨ j = 8)) → keS s i k j = s k j := fun h1 h2 h3 h4 => keS_o h1 h2 h3 h4
  have kk : ∀ c, c < 2 → y (75 + 4 * c) 2 = keS s i 0 (11 + c) := fun c hc => by
    rw [keS_k (by omega)]
    by_cases d : c = i
    · rw [if_pos d, d, k2]
    · rw [if_neg d, m _ (by omega) (by omega)]
      rcases (show c = 0 ∨ c = 1 by omega) with e | e
      · rw [e]; exact h.e 0 11
      · rw [e]; exact h.e 0 12
  have tt := told_e (x := x) (y := y) (fun k hk => m k (by omega) (by omega))
  have t0 : y (tid (y 3 1) + 1) 1 = s 0 0 := by rw [tt]; exact h.e 0 0
  have t1 : y (tid (y 3 1) + 1) 2 = s 0 1 := by rw [tt]; exact h.e 0 1
  refine hq y (h.g (fun k hk => m k (by omega) (by omega)) ⟨fun kc hk => ?_, by rw [y10.2]; exact h.2.2.2.1, by rw [y10.2]; exact h.2.2.2.2⟩ (fun k j hk => o (by omega) (by omega) (by omega) (by omega)) ?_ ?_ ?_ (kk 0 (by decide)) (kk 1 (by decide)) ?_ ?_ ?_ ?_ ?_ ?_) (k.ke hi) fun k hk => m k (by omega) (by omega)
  · have l2 := lay2' hk
    by_cases c : kc = 76 + 4 * i
    · have c4 := h.2.2.1 4 (by decide)
      rw [c, show 76 + 4 * i = 75 + 4 * i + 1 by omega]
      refine ⟨fun b hb => ?_, ?_⟩
      · rw [mi _ (by omega), f2 b hb]; exact c4.1 b hb
      · rw [mi _ (by omega), f4]; exact c4.2
    · unfold CK
      rw [m (kc + 1) (by omega) (by omega), m kc (by omega) (by omega)]
      exact h.2.2.1 kc hk
  · rw [y10.1, keS_8]
  · rw [m 60 (by decide) (by omega), o (by decide) (by decide) (by decide) (by omega)]; exact h.e 0 9
  · rw [m 63 (by decide) (by omega), o (by decide) (by decide) (by decide) (by omega)]; exact h.e 0 10
  · intro j; rw [o (by decide) (by decide) (by decide) (by omega)]; exact cs5 h (fun k hk => m k (by omega) (by omega)) (m _ (by decide) (by omega)) (m _ (by decide) (by omega)) (m _ (by decide) (by omega)) j
  · intro j
    rw [cS_6, y10.1, keS_6, if_neg (by omega)]
  · intro j
    rw [cS_7, keS_7, t0, t1]
    by_cases c : j < 62
    · by_cases d : j / 31 = i
      · rw [d, k2, if_pos ⟨c, rfl⟩, if_pos (by omega), hs, snap_e h (by omega), show j % 31 = j - 31 * i by omega]
      · rw [if_neg (show ¬ (31 * i ≤ j ∧ j < 31 * i + 31) by omega), m _ (by omega) (by omega), snap_k (m _ (by omega) (by omega)) (m _ (by omega) (by omega)) (m _ (by omega) (by omega)), ← h.e 7 j, cS_7, show x (tid (x 3 1) + 1) 1 = s 0 0 from h.e 0 0, show x (tid (x 3 1) + 1) 2 = s 0 1 from h.e 0 1]
    · rw [if_neg (fun e => c e.1), if_neg (show ¬ (31 * i ≤ j ∧ j < 31 * i + 31) by omega), ← h.e 7 j, cS_7, if_neg (fun e => c e.1)]
  · intro j; rw [o (by decide) (by decide) (by decide) (by omega)]; exact cs9 h (m _ (by decide) (by omega)) (m _ (by decide) (by omega)) j
  · intro j; rw [o (by decide) (by decide) (by decide) (by omega)]; exact cs10 h (m _ (by decide) (by omega)) (m _ (by decide) (by omega)) j
  · intro j
    rw [cS_11, keS_11]
    by_cases d : j = i
    · rw [d, k2, if_pos ⟨hi, rfl⟩, if_pos rfl, k1]
    · rw [if_neg d, ← h.e 11 j, cS_11]
      by_cases c : j < 2
      · rw [m _ (by omega) (by omega)]
      · rw [if_neg (fun e => c e.1), if_neg (fun e => c e.1)]
def keY (x : XM) (o i : Nat) : XM := fun a b => if a = 95 ∧ o ≤ b ∧ b < o + i then x 93 (b - o) else x a b
theorem keY_k {x : XM} {o i k : Nat} (h : k ≠ 95) : keY x o i k = x k := by
  funext b
  exact if_neg fun e => h e.1
theorem keY_s {x : XM} {o i : Nat} : uX (keY x o i) 95 (o + i) (keY x o i 93 i) = keY x o (i + 1) := by
  funext a b
  rw [keY_k (by decide)]
  unfold uX keY
  by_cases c1 : a = 95 ∧ b = o + i
  · rw [if_pos c1, if_pos (by omega), show b - o = i by omega]
  · rw [if_neg c1]
    by_cases c2 : a = 95 ∧ o ≤ b ∧ b < o + i
    · rw [if_pos c2, if_pos (by omega)]
    · rw [if_neg c2, if_neg (by omega)]
theorem keY_0 {x : XM} {o : Nat} : keY x o 0 = x := by
  funext a b
  exact if_neg (by omega)
theorem r_keep_14 {x : XM} {q : Int → XM → Prop} {i : Nat} (hi : i < 2) (hq : q 1 (uX (uX (uX (keY x (31 * i) 31) 96 i (x 83 31)) 97 i 1) 83 27 0)) (n : Nat) : ∀ c, c ≤ 31 → 31 < c + n → M_X11_keep_14 q n (keY x (31 * i) c) (i : Int) (c : Int) := by
  induction n with
  | zero => intro c h1 h2; omega
  | succ n ih =>
    intro c a1 a2
    unfold M_X11_keep_14
    rw [Int.toNat_natCast, Int.toNat_natCast, show (31 * (i : Int) + c).toNat = 31 * i + c by omega]
    refine ⟨fun d => ⟨⟨by omega, by omega⟩, fun x5 e5 => ⟨⟨by omega, by omega⟩, fun x7 e7 x8 e8 => ?_⟩⟩, fun d => ⟨⟨by omega, by omega⟩, ⟨by omega, by omega⟩, fun y ey => ⟨rg1 (by omega), ?_⟩⟩⟩
    · rw [e8, e7, e5, show c = 31 by omega]
      have : keY x (31 * i) 31 83 31 = x 83 31 := by rw [keY_k (by decide)]
      rw [this]
      exact hq
    · rw [keY_s] at ey
      rw [ey]
      exact ih (c + 1) (by omega) (by omega)
theorem R_keep {s x : XM} {v : Int} {q : Int → XM → Prop} (h : RF s x) (hq : ∀ y : XM, RF (uKee s v).2 y → Gr x y → q (uKee s v).1 y) : M_X11_keep x v q := by
  unfold uKee at hq
  refine r_in ?_
  by_cases c : 0 ≤ v ∧ v ≤ 1
  · rw [if_pos c] at hq ⊢
    refine jT (by decide) ⟨32, ?_⟩
    obtain ⟨i, rfl⟩ : ∃ i : Nat, v = i := ⟨v.toNat, by omega⟩
    rw [Int.toNat_natCast] at hq
    have hi : i < 2 := by omega
    have hq : ∀ y : XM, RF (keS s i) y → Gr x y → q 1 y := hq
    have := r_keep_14 (x := x) (q := q) hi ?_ 32 0 (by decide) (by decide)
    · rw [keY_0] at this
      exact this
    · have e10 : x 83 31 = s 0 10 := h.e 0 10
      rw [e10]
      generalize hy : uX (uX (uX (keY x (31 * i) 31) 96 i (s 0 10)) 97 i 1) 83 27 0 = y
      have m : ∀ k, k ≠ 83 → k ≠ 95 → k ≠ 96 → k ≠ 97 → y k = x k := fun k h1 h2 h3 h4 => by rw [← hy, uX_k h1, uX_k h4, uX_k h3, keY_k h2]
      have m83 : ∀ j, j ≠ 27 → y 83 j = x 83 j := fun j hj => by rw [← hy, uX_j hj, uX_k (by decide), uX_k (by decide), keY_k (by decide)]
      have m27 : y 83 27 = 0 := by rw [← hy, uX_eq]
      have m97 : ∀ j, y 97 j = if j = i then 1 else x 97 j := fun j => by rw [← hy, uX_k (by decide), uX_at, uX_k (by decide), keY_k (by decide)]
      have m96 : ∀ j, y 96 j = if j = i then s 0 10 else x 96 j := fun j => by rw [← hy, uX_k (by decide), uX_k (by decide), uX_at, keY_k (by decide)]
      have m95 : ∀ j, y 95 j = if 31 * i ≤ j ∧ j < 31 * i + 31 then x 93 (j - 31 * i) else x 95 j := fun j => by
        rw [← hy, uX_k (by decide), uX_k (by decide), uX_k (by decide)]
        unfold keY
        by_cases d : 31 * i ≤ j ∧ j < 31 * i + 31
        · rw [if_pos d, if_pos ⟨rfl, d⟩]
        · rw [if_neg d, if_neg (fun e => d e.2)]
      have o : ∀ {k j}, k ≠ 6 → k ≠ 7 → k ≠ 11 → ¬ (k = 0 ∧ (j = 11 + i ∨ j = 8)) → keS s i k j = s k j := fun h1 h2 h3 h4 => keS_o h1 h2 h3 h4
      have kk : ∀ c, c < 2 → y 97 c = keS s i 0 (11 + c) := fun c hc => by
        rw [keS_k (by omega), m97]
        by_cases d : c = i
        · rw [if_pos d, if_pos d]
        · rw [if_neg d, if_neg d]
          rcases (show c = 0 ∨ c = 1 by omega) with e | e
          · rw [e]; exact h.e 0 11
          · rw [e]; exact h.e 0 12
      refine hq y (h.g (fun k hk => m k (by omega) (by omega) (by omega) (by omega)) (fun j hj => m83 j (by omega)) (fun k j hk => o (by omega) (by omega) (by omega) (by omega)) ?_ ?_ ?_ (kk 0 (by decide)) (kk 1 (by decide)) ?_ ?_ ?_ ?_ ?_ ?_) fun k hk => m k (by omega) (by omega) (by omega) (by omega)
      · rw [m27, keS_8]
      · rw [m83 38 (by decide), o (by decide) (by decide) (by decide) (by omega)]; exact h.e 0 9
      · rw [m83 31 (by decide), o (by decide) (by decide) (by decide) (by omega)]; exact h.e 0 10
      · intro j; rw [o (by decide) (by decide) (by decide) (by omega)]; exact rs5 h (fun j hj => m83 j (by omega)) (m _ (by decide) (by decide) (by decide) (by decide)) j
      · intro j
        rw [rS_6, m27, keS_6, if_neg (by omega)]
      · intro j
        rw [rS_7, keS_7, m97, m95, m83 3 (by decide), m83 5 (by decide), show x 83 3 = s 0 0 from h.e 0 0, show x 83 5 = s 0 1 from h.e 0 1]
        by_cases c : j < 62
        · by_cases d : j / 31 = i
          · rw [if_pos d, if_pos ⟨c, rfl⟩, if_pos (by omega), if_pos (by omega), h.m5, if_pos (by omega), show j % 31 = j - 31 * i by omega]
          · rw [if_neg d, if_neg (show ¬ (31 * i ≤ j ∧ j < 31 * i + 31) by omega), if_neg (show ¬ (31 * i ≤ j ∧ j < 31 * i + 31) by omega), ← h.e 7 j, rS_7, show x 83 3 = s 0 0 from h.e 0 0, show x 83 5 = s 0 1 from h.e 0 1]
        · rw [if_neg (fun e => c e.1), if_neg (show ¬ (31 * i ≤ j ∧ j < 31 * i + 31) by omega), ← h.e 7 j, rS_7, if_neg (fun e => c e.1)]
      · intro j; rw [o (by decide) (by decide) (by decide) (by omega)]; exact rs9 h (m83 _ (by decide)) (m _ (by decide) (by decide) (by decide) (by decide)) j
      · intro j; rw [o (by decide) (by decide) (by decide) (by omega)]; exact rs10 h (m83 _ (by decide)) (m _ (by decide) (by decide) (by decide) (by decide)) j
      · intro j
        rw [rS_11, keS_11, m97, m96]
        by_cases d : j = i
        · rw [if_pos d, if_pos d, if_pos d, if_pos ⟨by omega, rfl⟩]
        · rw [if_neg d, if_neg d, if_neg d, ← h.e 11 j, rS_11]
  · rw [if_neg c] at hq ⊢
    exact jF rfl (hq x h Gr.rf)
