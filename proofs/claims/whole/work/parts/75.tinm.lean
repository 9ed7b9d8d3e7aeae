/-! ===== tin, the reference ===== -/
theorem jand_k : ∀ n : Nat, n < 256 → jand ((n : Int) - 128) 255 = ((n : Int) - 128) % 256 := by decide +kernel
theorem jand_255 {a : Int} (h : -128 ≤ a ∧ a < 128) : jand a 255 = a % 256 := by
  have := jand_k (a + 128).toNat (by omega)
  rw [show (((a + 128).toNat : Nat) : Int) - 128 = a by omega] at this
  exact this
theorem r_t272 {x : XM} {q : Int → XM → Prop} (hq : ∀ z, (∀ k, k ≠ 83 → k ≠ 93 → k ≠ 97 → z k = x k) → (∀ j, j ≠ 27 → j ≠ 38 → z 83 j = x 83 j) → z 83 27 = 0 → z 83 38 = 0 → z 97 0 = 0 → z 97 1 = 0 → (∀ j, z 93 j = if 24 ≤ j ∧ j < 30 then ((j - 24 : Nat) : Int) else x 93 j) → q (x 83 3) z) (n : Nat) : ∀ (i : Nat) (y : XM), i ≤ 6 → 6 < i + n → (∀ k, k ≠ 93 → y k = x k) → (∀ j, y 93 j = if 24 ≤ j ∧ j < 24 + i then ((j - 24 : Nat) : Int) else x 93 j) → M_X11_tin_272 q n y (i : Int) := by
  induction n with
  | zero => intro i y a1 a2; omega
  | succ n ih =>
    intro i y a1 a2 hf h0
    unfold M_X11_tin_272
    refine ⟨fun c x1 e1 x2 e2 x3 e3 x4 e4 => ?_, fun c => ⟨⟨by omega, by omega⟩, fun z ez => ⟨rg1 (by omega), ih (i + 1) z (by omega) (by omega) (fun k hk => by rw [ez, uX_k hk]; exact hf k hk) fun j => ?_⟩⟩⟩
    · have e83 : ∀ j, j ≠ 27 → j ≠ 38 → x4 83 j = x 83 j := fun j h1 h2 => by rw [e4, uX_k (by decide), e3, uX_k (by decide), e2, uX_j h2, e1, uX_j h1, hf 83 (by decide)]
      rw [e83 3 (by decide) (by decide)]
      refine hq x4 (fun k h1 h2 h3 => by rw [e4, uX_k h3, e3, uX_k h3, e2, uX_k h1, e1, uX_k h1, hf k h2]) e83 ?_ ?_ ?_ ?_ fun j => ?_
      · rw [e4, uX_k (by decide), e3, uX_k (by decide), e2, uX_j (by decide), e1, uX_eq]
      · rw [e4, uX_k (by decide), e3, uX_k (by decide), e2, uX_eq]
      · rw [e4, uX_j (by decide), e3, uX_eq]
      · rw [e4, uX_eq]
      · rw [e4, uX_k (by decide), e3, uX_k (by decide), e2, uX_k (by decide), e1, uX_k (by decide), h0 j, show i = 6 by omega]
    · rw [ez, show (24 + (i : Int)).toNat = 24 + i by omega, uX_at]
      by_cases d : j = 24 + i
      · rw [if_pos d, if_pos (by omega), d, show 24 + i - 24 = i by omega]
      · rw [if_neg d, h0 j]
        by_cases g : 24 ≤ j ∧ j < 24 + i
        · rw [if_pos g, if_pos (by omega)]
        · rw [if_neg g, if_neg (by omega)]
theorem r_t237 {x : XM} {q : Int → XM → Prop} {nb : Nat} (hn : x 83 3 = (nb : Int)) (hnb : nb ≤ 12) (hq : ∀ y, (∀ k, k ≠ 93 → y k = x k) → (∀ j, y 93 j = if 12 ≤ j ∧ j < 12 + nb then x 85 (4 * (j - 12) + 3) else x 93 j) → ∃ m, M_X11_tin_272 q m y 0) (n : Nat) : ∀ (i : Nat) (y : XM), i ≤ nb → nb < i + n → (∀ k, k ≠ 93 → y k = x k) → (∀ j, y 93 j = if 12 ≤ j ∧ j < 12 + i then x 85 (4 * (j - 12) + 3) else x 93 j) → M_X11_tin_237 q n y (i : Int) := by
  induction n with
  | zero => intro i y a1 a2; omega
  | succ n ih =>
    intro i y a1 a2 hf h0
    unfold M_X11_tin_237
    rw [hf 83 (by decide), hn, hf 85 (by decide)]
    refine ⟨fun c => hq y hf fun j => by rw [h0 j, show i = nb by omega], fun c => ⟨⟨by omega, by omega⟩, ⟨by omega, by omega⟩, fun z ez => ⟨rg1 (by omega), ih (i + 1) z (by omega) (by omega) (fun k hk => by rw [ez, uX_k hk]; exact hf k hk) fun j => ?_⟩⟩⟩
    rw [ez, show (12 + (i : Int)).toNat = 12 + i by omega, show (4 * (i : Int) + 3).toNat = 4 * i + 3 by omega, uX_at]
    by_cases d : j = 12 + i
    · rw [if_pos d, if_pos (by omega), d, show 12 + i - 12 = i by omega]
    · rw [if_neg d, h0 j]
      by_cases g : 12 ≤ j ∧ j < 12 + i
      · rw [if_pos g, if_pos (by omega)]
      · rw [if_neg g, if_neg (by omega)]
theorem r_t216 {x : XM} {q : Int → XM → Prop} (hq : ∀ y, (∀ k, k ≠ 93 → y k = x k) → (∀ j, j < 31 → y 93 j = 0) → ∃ m, M_X11_tin_237 q m y 0) (n : Nat) : ∀ (i : Nat) (y : XM), i ≤ 31 → 31 < i + n → (∀ k, k ≠ 93 → y k = x k) → (∀ j, j < i → y 93 j = 0) → M_X11_tin_216 q n y (i : Int) := by
  induction n with
  | zero => intro i y a1 a2; omega
  | succ n ih =>
    intro i y a1 a2 hf h0
    unfold M_X11_tin_216
    refine ⟨fun c => hq y hf fun j hj => h0 j (by omega), fun c => ⟨⟨by omega, by omega⟩, fun z ez => ⟨rg1 (by omega), ih (i + 1) z (by omega) (by omega) (fun k hk => by rw [ez, uX_k hk]; exact hf k hk) fun j hj => ?_⟩⟩⟩
    rw [ez, Int.toNat_natCast, uX_at]
    by_cases d : j = i
    · rw [if_pos d]
    · rw [if_neg d]; exact h0 j (by omega)
theorem r_t191 {x : XM} {q : Int → XM → Prop} (hq : ∀ y, (∀ k, k ≠ 88 → y k = x k) → (∀ j, j < 5 → y 88 j = x 92 j) → ∃ m, M_X11_tin_216 q m y 0) (n : Nat) : ∀ (i : Nat) (y : XM), i ≤ 5 → 5 < i + n → (∀ k, k ≠ 88 → y k = x k) → (∀ j, j < i → y 88 j = x 92 j) → M_X11_tin_191 q n y (i : Int) := by
  induction n with
  | zero => intro i y a1 a2; omega
  | succ n ih =>
    intro i y a1 a2 hf h0
    unfold M_X11_tin_191
    refine ⟨fun c => hq y hf fun j hj => h0 j (by omega), fun c => ⟨⟨by omega, by omega⟩, ⟨by omega, by omega⟩, fun z ez => ⟨rg1 (by omega), ih (i + 1) z (by omega) (by omega) (fun k hk => by rw [ez, uX_k hk]; exact hf k hk) fun j hj => ?_⟩⟩⟩
    rw [ez, Int.toNat_natCast, uX_at, hf 92 (by decide)]
    by_cases d : j = i
    · rw [if_pos d, d]
    · rw [if_neg d]; exact h0 j (by omega)
theorem r_t165 {x : XM} {q : Int → XM → Prop} (hq : ∀ y, (∀ k, k ≠ 87 → y k = x k) → (∀ j, j < 20 → y 87 j = x 91 j) → ∃ m, M_X11_tin_191 q m y 0) (n : Nat) : ∀ (i : Nat) (y : XM), i ≤ 20 → 20 < i + n → (∀ k, k ≠ 87 → y k = x k) → (∀ j, j < i → y 87 j = x 91 j) → M_X11_tin_165 q n y (i : Int) := by
  induction n with
  | zero => intro i y a1 a2; omega
  | succ n ih =>
    intro i y a1 a2 hf h0
    unfold M_X11_tin_165
    refine ⟨fun c => hq y hf fun j hj => h0 j (by omega), fun c => ⟨⟨by omega, by omega⟩, ⟨by omega, by omega⟩, fun z ez => ⟨rg1 (by omega), ih (i + 1) z (by omega) (by omega) (fun k hk => by rw [ez, uX_k hk]; exact hf k hk) fun j hj => ?_⟩⟩⟩
    rw [ez, Int.toNat_natCast, uX_at, hf 91 (by decide)]
    by_cases d : j = i
    · rw [if_pos d, d]
    · rw [if_neg d]; exact h0 j (by omega)
theorem r_t139 {x : XM} {q : Int → XM → Prop} (hq : ∀ y, (∀ k, k ≠ 86 → y k = x k) → (∀ j, j < 24 → y 86 j = x 90 j) → ∃ m, M_X11_tin_165 q m y 0) (n : Nat) : ∀ (i : Nat) (y : XM), i ≤ 24 → 24 < i + n → (∀ k, k ≠ 86 → y k = x k) → (∀ j, j < i → y 86 j = x 90 j) → M_X11_tin_139 q n y (i : Int) := by
  induction n with
  | zero => intro i y a1 a2; omega
  | succ n ih =>
    intro i y a1 a2 hf h0
    unfold M_X11_tin_139
    refine ⟨fun c => hq y hf fun j hj => h0 j (by omega), fun c => ⟨⟨by omega, by omega⟩, ⟨by omega, by omega⟩, fun z ez => ⟨rg1 (by omega), ih (i + 1) z (by omega) (by omega) (fun k hk => by rw [ez, uX_k hk]; exact hf k hk) fun j hj => ?_⟩⟩⟩
    rw [ez, Int.toNat_natCast, uX_at, hf 90 (by decide)]
    by_cases d : j = i
    · rw [if_pos d, d]
    · rw [if_neg d]; exact h0 j (by omega)
theorem r_t113 {x : XM} {q : Int → XM → Prop} (hq : ∀ y, (∀ k, k ≠ 85 → y k = x k) → (∀ j, j < 48 → y 85 j = x 89 j) → ∃ m, M_X11_tin_139 q m y 0) (n : Nat) : ∀ (i : Nat) (y : XM), i ≤ 48 → 48 < i + n → (∀ k, k ≠ 85 → y k = x k) → (∀ j, j < i → y 85 j = x 89 j) → M_X11_tin_113 q n y (i : Int) := by
  induction n with
  | zero => intro i y a1 a2; omega
  | succ n ih =>
    intro i y a1 a2 hf h0
    unfold M_X11_tin_113
    refine ⟨fun c => hq y hf fun j hj => h0 j (by omega), fun c => ⟨⟨by omega, by omega⟩, ⟨by omega, by omega⟩, fun z ez => ⟨rg1 (by omega), ih (i + 1) z (by omega) (by omega) (fun k hk => by rw [ez, uX_k hk]; exact hf k hk) fun j hj => ?_⟩⟩⟩
    rw [ez, Int.toNat_natCast, uX_at, hf 89 (by decide)]
    by_cases d : j = i
    · rw [if_pos d, d]
    · rw [if_neg d]; exact h0 j (by omega)
theorem RF.ts {s x z : XM} {C : Nat → Nat} {D : Nat → Int} (h : RF s x) (h84 : z 84 = x 84) (f1 : z 83 1 = 0) (f2 : z 83 2 = if C 0 = 0 then 0 else D 0) (f3 : z 83 3 = (C 1 : Int)) (f5 : z 83 5 = (C 2 : Int)) (f7 : z 83 7 = (C 3 : Int)) (f9 : z 83 9 = (C 4 : Int)) (f20 : z 83 20 = (C 0 : Int)) (f21 : z 83 21 = -1) (f27 : z 83 27 = 0) (f38 : z 83 38 = 0) (f31 : z 83 31 = x 83 31) (k0 : z 97 0 = 0) (k1 : z 97 1 = 0) (d1 : ∀ j, j < 4 * C 1 → z 85 j = D (4 + j)) (d2 : ∀ j, j < 4 * C 2 → z 86 j = D (52 + j)) (d3 : ∀ j, j < 4 * C 3 → z 87 j = D (76 + j)) (d4 : ∀ j, j < C 4 → z 88 j = D (96 + 4 * j)) (d5 : ∀ j, j < 31 → z 93 j = laid C D j) : RF (tS s C D) z := by
  refine ⟨rS_ext (lt12 ?_ ?_ ?_ ?_ ?_ ?_ ?_ ?_ ?_ ?_ ?_ ?_) fun k hk j => ?_, fun j => by rw [h84]; exact h.2 j⟩
  · intro j
    show rS0 z j = tS0 s C D j
    unfold rS0 tS0
    match j with
    | 0 => exact f3
    | 1 => exact f5
    | 2 => exact f7
    | 3 => exact f9
    | 4 => exact f2
    | 5 => exact f20
    | 6 => exact f1
    | 7 => exact f21
    | 8 => exact f27
    | 9 => exact f38
    | 10 => exact f31.trans (h.e 0 10)
    | 11 => exact k0
    | 12 => exact k1
    | n + 13 => rfl
  · intro j
    rw [rS_1, f3]
    show _ = if j < 4 * C 1 then D (4 + j) else 0
    by_cases c : j < 4 * C 1
    · rw [if_pos c, if_pos (by omega), d1 j c]
    · rw [if_neg c, if_neg (by omega)]
  · intro j
    rw [rS_2, f5]
    show _ = if j < 4 * C 2 then D (52 + j) else 0
    by_cases c : j < 4 * C 2
    · rw [if_pos c, if_pos (by omega), d2 j c]
    · rw [if_neg c, if_neg (by omega)]
  · intro j
    rw [rS_3, f7]
    show _ = if j < 4 * C 3 then D (76 + j) else 0
    by_cases c : j < 4 * C 3
    · rw [if_pos c, if_pos (by omega), d3 j c]
    · rw [if_neg c, if_neg (by omega)]
  · intro j
    rw [rS_4, f9]
    show _ = if j < C 4 then D (96 + 4 * j) else 0
    by_cases c : j < C 4
    · rw [if_pos c, if_pos (by omega), d4 j c]
    · rw [if_neg c, if_neg (by omega)]
  · intro j
    rw [rS_5, f3, f5, tS_5]
    by_cases c : j < 31
    · rw [if_pos c, if_pos c, d5 j c]
    · rw [if_neg c, if_neg c]
  · intro j; rw [rS_6, f27, if_neg (by omega)]; rfl
  · intro j
    rw [rS_7, if_neg]
    · rfl
    · intro g
      have : j / 31 = 0 ∨ j / 31 = 1 := by omega
      rcases this with e | e
      · rw [e, k0] at g; omega
      · rw [e, k1] at g; omega
  · intro j; rw [rS_8, f1, if_neg (by omega)]; rfl
  · intro j; rw [rS_9, f38, if_neg (by omega)]; rfl
  · intro j; rw [rS_10, f38, if_neg (by omega)]; rfl
  · intro j
    rw [rS_11, if_neg]
    · rfl
    · intro g
      have : j = 0 ∨ j = 1 := by omega
      rcases this with e | e
      · rw [e, k0] at g; omega
      · rw [e, k1] at g; omega
  · obtain ⟨i, rfl⟩ : ∃ i, k = i + 12 := ⟨k - 12, by omega⟩
    rfl
theorem r_tin68 {s x y : XM} {C : Nat → Nat} {D : Nat → Int} {q : Int → XM → Prop} (h : RF s x) (hC : ∀ j, j < 5 → C j ≤ tmx j) (hy : ∀ k, 83 < k → ¬ (89 ≤ k ∧ k < 93) → y k = x k) (hA : Ag y C D) (h1 : y 83 1 = 0) (h21 : y 83 21 = -1) (h31 : y 83 31 = x 83 31) (hlow : ∀ k, k < 83 → y k = x k) (hq : ∀ z, RF (tS s C D) z → Gr x z → q (C 1 : Int) z) : M_X11_tin_68 q y (C 0 : Int) := by
  have c0 : C 0 ≤ 1 := hC 0 (by decide)
  have c1 : C 1 ≤ 12 := hC 1 (by decide)
  have c2 : C 2 ≤ 6 := hC 2 (by decide)
  have c3 : C 3 ≤ 5 := hC 3 (by decide)
  have c4 : C 4 ≤ 5 := hC 4 (by decide)
  obtain ⟨a1, a2, a3, a4, a5, a6, a7, a8, a9⟩ := hA
  refine ⟨by omega, fun x10 e10 x11 e11 x12 e12 x13 e13 x14 e14 x15 e15 => ?_⟩
  have g11 : x10 83 11 = y 83 11 := by rw [e10, uX_j (by decide)]
  have g12 : x11 83 12 = y 83 12 := by rw [e11, uX_j (by decide), e10, uX_j (by decide)]
  have g14 : x12 83 14 = y 83 14 := by rw [e12, uX_j (by decide), e11, uX_j (by decide), e10, uX_j (by decide)]
  have g16 : x13 83 16 = y 83 16 := by rw [e13, uX_j (by decide), e12, uX_j (by decide), e11, uX_j (by decide), e10, uX_j (by decide)]
  have g18 : x14 83 18 = y 83 18 := by rw [e14, uX_j (by decide), e13, uX_j (by decide), e12, uX_j (by decide), e11, uX_j (by decide), e10, uX_j (by decide)]
  rw [g11, a9] at e11
  rw [g12, a1] at e12
  rw [g14, a2] at e13
  rw [g16, a3] at e14
  rw [g18, a4] at e15
  have fk : ∀ k, k ≠ 83 → x15 k = y k := fun k hk => by rw [e15, uX_k hk, e14, uX_k hk, e13, uX_k hk, e12, uX_k hk, e11, uX_k hk, e10, uX_k hk]
  have ff : ∀ j, x15 83 j = if j = 9 then (C 4 : Int) else if j = 7 then (C 3 : Int) else if j = 5 then (C 2 : Int) else if j = 3 then (C 1 : Int) else if j = 2 then (if C 0 = 0 then 0 else D 0) else if j = 20 then (C 0 : Int) else y 83 j := fun j => by rw [e15, uX_at, e14, uX_at, e13, uX_at, e12, uX_at, e11, uX_at, e10, uX_at]
  refine ⟨49, r_t113 (fun y1 f1 v1 => ⟨25, r_t139 (fun y2 f2 v2 => ⟨21, r_t165 (fun y3 f3 v3 => ⟨6, r_t191 (fun y4 f4 v4 => ⟨32, r_t216 (fun y5 f5 v5 => ⟨C 1 + 1, r_t237 (nb := C 1) ?_ c1 (fun y6 f6 v6 => ⟨7, r_t272 (fun z fz fz83 z27 z38 z0 z1 vz => ?_) 7 0 y6 (by omega) (by omega) (fun _ _ => rfl) (fun j => by rw [if_neg (by omega)])⟩) (C 1 + 1) 0 y5 (by omega) (by omega) (fun _ _ => rfl) (fun j => by rw [if_neg (by omega)])⟩) 32 0 y4 (by omega) (by omega) (fun _ _ => rfl) (fun j hj => by omega)⟩) 6 0 y3 (by omega) (by omega) (fun _ _ => rfl) (fun j hj => by omega)⟩) 21 0 y2 (by omega) (by omega) (fun _ _ => rfl) (fun j hj => by omega)⟩) 25 0 y1 (by omega) (by omega) (fun _ _ => rfl) (fun j hj => by omega)⟩) 49 0 x15 (by omega) (by omega) (fun _ _ => rfl) (fun j hj => by omega)⟩
  · rw [f5 83 (by decide), f4 83 (by decide), f3 83 (by decide), f2 83 (by decide), f1 83 (by decide)]
    exact ff 3
  · have g83 : ∀ j, y6 83 j = x15 83 j := fun j => by rw [f6 83 (by decide), f5 83 (by decide), f4 83 (by decide), f3 83 (by decide), f2 83 (by decide), f1 83 (by decide)]
    have z83 : ∀ j, j ≠ 27 → j ≠ 38 → z 83 j = x15 83 j := fun j h1 h2 => by rw [fz83 j h1 h2, g83 j]
    have zo : ∀ k, k ≠ 83 → k ≠ 93 → k ≠ 97 → k ≠ 85 → k ≠ 86 → k ≠ 87 → k ≠ 88 → z k = y k := fun k h1 h2 h3 h4 h5 h6 h7 => by rw [fz k h1 h2 h3, f6 k h2, f5 k h2, f4 k h7, f3 k h6, f2 k h5, f1 k h4, fk k h1]
    have e85 : ∀ j, j < 48 → z 85 j = y 89 j := fun j hj => by rw [fz 85 (by decide) (by decide) (by decide), f6 85 (by decide), f5 85 (by decide), f4 85 (by decide), f3 85 (by decide), f2 85 (by decide), v1 j hj, fk 89 (by decide)]
    have e86 : ∀ j, j < 24 → z 86 j = y 90 j := fun j hj => by rw [fz 86 (by decide) (by decide) (by decide), f6 86 (by decide), f5 86 (by decide), f4 86 (by decide), f3 86 (by decide), v2 j hj, f1 90 (by decide), fk 90 (by decide)]
    have e87 : ∀ j, j < 20 → z 87 j = y 91 j := fun j hj => by rw [fz 87 (by decide) (by decide) (by decide), f6 87 (by decide), f5 87 (by decide), f4 87 (by decide), v3 j hj, f2 91 (by decide), f1 91 (by decide), fk 91 (by decide)]
    have e88 : ∀ j, j < 5 → z 88 j = y 92 j := fun j hj => by rw [fz 88 (by decide) (by decide) (by decide), f6 88 (by decide), f5 88 (by decide), v4 j hj, f3 92 (by decide), f2 92 (by decide), f1 92 (by decide), fk 92 (by decide)]
    have e3 : y6 83 3 = (C 1 : Int) := by rw [g83]; exact ff 3
    rw [e3]
    refine hq z (RF.ts h ?_ ?_ ?_ ?_ ?_ ?_ ?_ ?_ ?_ z27 z38 ?_ z0 z1 ?_ ?_ ?_ ?_ ?_) fun k hk => by rw [zo k (by omega) (by omega) (by omega) (by omega) (by omega) (by omega) (by omega)]; exact hlow k hk
    · rw [zo 84 (by decide) (by decide) (by decide) (by decide) (by decide) (by decide) (by decide)]; exact hy 84 (by decide) (by decide)
    · rw [z83 1 (by decide) (by decide)]; exact (ff 1).trans h1
    · rw [z83 2 (by decide) (by decide)]; exact ff 2
    · rw [z83 3 (by decide) (by decide)]; exact ff 3
    · rw [z83 5 (by decide) (by decide)]; exact ff 5
    · rw [z83 7 (by decide) (by decide)]; exact ff 7
    · rw [z83 9 (by decide) (by decide)]; exact ff 9
    · rw [z83 20 (by decide) (by decide)]; exact ff 20
    · rw [z83 21 (by decide) (by decide)]; exact (ff 21).trans h21
    · rw [z83 31 (by decide) (by decide)]; exact (ff 31).trans h31
    · intro j hj; rw [e85 j (by omega)]; exact a5 j hj
    · intro j hj; rw [e86 j (by omega)]; exact a6 j hj
    · intro j hj; rw [e87 j (by omega)]; exact a7 j hj
    · intro j hj; rw [e88 j (by omega)]; exact a8 j hj
    · intro j hj
      have y85 : ∀ j, j < 48 → y5 85 j = y 89 j := fun j hj => by rw [f5 85 (by decide), f4 85 (by decide), f3 85 (by decide), f2 85 (by decide), v1 j hj, fk 89 (by decide)]
      rw [vz j, v6 j, v5 j hj]
      unfold laid
      by_cases g1 : j < 12
      · rw [if_pos g1, if_neg (by omega), if_neg (by omega)]
      · rw [if_neg g1]
        by_cases g2 : j < 24
        · rw [if_pos g2, if_neg (by omega)]
          by_cases g3 : j - 12 < C 1
          · rw [if_pos g3, if_pos (by omega), y85 _ (by omega)]
            exact a5 _ (by omega)
          · rw [if_neg g3, if_neg (by omega)]
        · rw [if_neg g2]
          by_cases g3 : j < 30
          · rw [if_pos g3, if_pos (by omega)]
          · rw [if_neg g3, if_neg (by omega), if_neg (by omega)]
theorem R_tin {s x : XM} {D : Nat → Int} {q : Int → XM → Prop} (h : RF s x) (k : Ok s) (hq : ∀ y : XM, RF (uTin s D).2 y → Gr x y → q (uTin s D).1 y) : M_X11_tin x q := by
  have hx := ok_x k
  have e1 : x 83 1 = s 0 6 := h.e 0 6
  have ht : Tm s x := ⟨by rw [e1]; exact hx.1, fun j hj => by rw [jand_255 (h.2 j), ← h.e 8 j, rS_8, e1, if_pos (by omega)]⟩
  have pp := PR_p (s := s) (D := D)
  intro x1 ex1
  have w1 : Rw x x1 0 := Rw.up (p := 0) ex1
  refine r_skip k (p := 0) (Nat.zero_le _) (w1.tm ht) w1.2.2 fun x2 h2 => ?_
  have w2 := w1.tr h2
  have t2 := w2.tm ht
  have go : ∀ s0 : Int, (s0 = if nX s ≤ skp s 0 then 1 else 0) → M_X11_tin_25 q x2 s0 := fun s0 es0 => by
    refine r_read k t2 D (fun e x4 rq z23 z24 ag x5 e5 x6 e6 => ?_) (fun e x4 rq z23 z24 x5 e5 x6 e6 => ?_)
    · have g24 : x5 83 24 = -1 := by rw [e5, uX_j (by decide)]; exact z24
      rw [g24] at e6
      have f6 : ∀ j, j ≠ 1 → j ≠ 21 → x6 83 j = x4 83 j := fun j a1 a2 => by rw [e6, uX_j a2, e5, uX_j a1]
      have k6 : ∀ k, k ≠ 83 → x6 k = x4 k := fun k hk => by rw [e6, uX_k hk, e5, uX_k hk]
      rw [f6 23 (by decide) (by decide), z23]
      refine iT rfl ?_
      unfold uTin at hq
      rw [if_pos e] at hq
      have pt := PR_t (s := s) (D := D) e
      have pc := PR_c (s := s) (D := D)
      generalize (PR s D).2.2.1 = C at *
      generalize (PR s D).2.2.2 = D' at *
      have hA : Ag x6 C D' := by
        obtain ⟨b1, b2, b3, b4, b5, b6, b7, b8, b9⟩ := ag
        unfold Ag
        rw [f6 12 (by decide) (by decide), f6 14 (by decide) (by decide), f6 16 (by decide) (by decide), f6 18 (by decide) (by decide), f6 11 (by decide) (by decide), k6 89 (by decide), k6 90 (by decide), k6 91 (by decide), k6 92 (by decide)]
        exact ⟨b1, b2, b3, b4, b5, b6, b7, b8, b9⟩
      have fin : M_X11_tin_68 q x6 (C 0 : Int) := r_tin68 h pc.1 (fun k a1 a2 => by rw [k6 k (by omega), rq.1 k (by omega) a2, w2.1 k (by omega)]) hA (by rw [e6, uX_j (by decide), e5, uX_eq]) (by rw [e6, uX_eq]) (by rw [f6 31 (by decide) (by decide), rq.2 31 (by decide), w2.2.1 31 (by decide)]) (fun k hk => by rw [k6 k (by omega), rq.1 k (by omega) (by omega), w2.1 k (by omega)]) hq
      rw [es0]
      by_cases c : nX s ≤ skp s 0
      · rw [if_pos c] at pt ⊢
        rw [pt] at fin
        exact jT (by decide) fin
      · rw [if_neg c] at pt ⊢
        rw [pt] at fin
        exact jF rfl fin
    · have g24 : x5 83 24 = ((PR s D).2.1 : Int) := by rw [e5, uX_j (by decide)]; exact z24
      rw [g24] at e6
      have f6 : ∀ j, j ≠ 1 → j ≠ 21 → x6 83 j = x4 83 j := fun j a1 a2 => by rw [e6, uX_j a2, e5, uX_j a1]
      have k6 : ∀ k, k ≠ 83 → x6 k = x4 k := fun k hk => by rw [e6, uX_k hk, e5, uX_k hk]
      rw [f6 23 (by decide) (by decide), z23]
      unfold uTin at hq
      rw [if_neg e] at hq
      refine iF e ⟨⟨by omega, by omega⟩, hq x6 (h.fa (fun k a1 a2 => by rw [k6 k (by omega), rq.1 k (by omega) a2, w2.1 k (by omega)]) (fun j hj => by rw [f6 j (by omega) (by omega), rq.2 j (by omega), w2.2.1 j (by omega)]) (by rw [e6, uX_j (by decide), e5, uX_eq]) (by rw [e6, uX_eq])) fun k hk => by rw [k6 k (by omega), rq.1 k (by omega) (by omega), w2.1 k (by omega)]⟩
  rw [h2.2.2, t2.1]
  have hs := skp_p (s := s) (p := 0) (Nat.zero_le _)
  refine ⟨fun c => go 0 (by rw [if_neg (by omega)]), fun c => go 1 (by rw [if_pos (by omega)])⟩
theorem Jt_ok : ∀ (x : XM) (P Q : XM → Prop), Inv x → (∀ y, Inv y → P y) → M_X10_tin x (fun z1 y => M_X11_tin y (fun z2 w => ((z1 = z2 → P w) ∧ (¬ z1 = z2 → Q w)))) := by
  intro x P Q ⟨s, hc, hr, k⟩ hP
  exact C_tin hc k fun y hy ko hf => R_tin (D := x (tid (x 0 8) + 2)) (hr.keep fun k hk => hf k hk) k fun w hw hg => ⟨fun _ => hP w ⟨_, hy.keep fun k hk => hg k hk, hw, ko⟩, fun n => absurd rfl n⟩
