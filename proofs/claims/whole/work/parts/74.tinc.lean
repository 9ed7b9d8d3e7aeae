/-! ===== tin, the class ===== -/
def pbn (C : Nat → Nat) (D : Nat → Int) (b : Nat) : Bool := decide (b < C 1 ∧ D (4 + (4 * b + 3)) = 1)
theorem c_lay67 {x : XM} {c1 : Int} {q : XM → Prop} (hq : ∀ y, (∀ k, k ≠ 6 → y k = x k) → (∀ j : Nat, j < 6 → y 6 j = (j : Int)) → q y) (n : Nat) : ∀ (i : Nat) (y : XM), i ≤ 6 → 6 < i + n → (∀ k, k ≠ 6 → y k = x k) → (∀ j : Nat, j < i → y 6 j = (j : Int)) → M_X2_layOut_67 4 c1 q n y (i : Int) := by
  induction n with
  | zero => intro i y a1 a2; omega
  | succ n ih =>
    intro i y a1 a2 hf h0
    unfold M_X2_layOut_67
    refine ⟨fun c => hq y hf fun j hj => h0 j (by omega), fun c => ⟨⟨by omega, by omega⟩, fun z ez => ⟨rg1 (by omega), ih (i + 1) z (by omega) (by omega) (fun k hk => ?_) fun j hj => ?_⟩⟩⟩
    · have ez' : z = uX y 6 ((i : Int)).toNat (i : Int) := ez
      rw [ez', uX_k hk]; exact hf k hk
    · have ez' : z = uX y 6 ((i : Int)).toNat (i : Int) := ez
      rw [ez', Int.toNat_natCast, uX_at]
      by_cases d : j = i
      · rw [if_pos d, d]
      · rw [if_neg d]; exact h0 j (by omega)
theorem c_lay12 {x : XM} {c1 : Int} {C : Nat → Nat} {D : Nat → Int} {q : XM → Prop} (hc : x (tid c1 + 1) 1 = (C 1 : Int)) (hd : ∀ j, x (tid c1 + 2) j = D j) (hq : ∀ y, (∀ k, k ≠ 4 → k ≠ 5 → y k = x k) → (∀ j, j < 12 → y 5 j = 6) → y 4 2 = ((bts (pbn C D) 12 : Nat) : Int) → y 4 3 = 0 → ∃ m, M_X2_layOut_67 4 c1 q m y 0) (n : Nat) : ∀ (i : Nat) (y : XM), i ≤ 12 → 12 < i + n → (∀ k, k ≠ 4 → k ≠ 5 → y k = x k) → (∀ j, j < i → y 5 j = 6) → y 4 2 = ((bts (pbn C D) i : Nat) : Int) → y 4 3 = 0 → M_X2_layOut_12 4 c1 q n y (i : Int) := by
  have htd := tid_c c1
  induction n with
  | zero => intro i y a1 a2; omega
  | succ n ih =>
    intro i y a1 a2 hf h5 h42 h43
    unfold M_X2_layOut_12
    refine ⟨fun c => ?_, fun c => ⟨⟨by omega, by omega⟩, fun z ez => ?_⟩⟩
    · have ei : i = 12 := by omega
      rw [ei] at h42
      exact hq y hf (fun j hj => h5 j (by omega)) h42 h43
    · have ez' : z = uX y 5 ((i : Int)).toNat 6 := ez
      rw [Int.toNat_natCast] at ez'
      have zf : ∀ k, k ≠ 4 → k ≠ 5 → z k = x k := fun k h1 h2 => by rw [ez', uX_k h2]; exact hf k h1 h2
      have z5 : ∀ j, j < i + 1 → z 5 j = 6 := fun j hj => by
        rw [ez', uX_at]
        by_cases d : j = i
        · rw [if_pos d]
        · rw [if_neg d]; exact h5 j (by omega)
      have z4 : z 4 = y 4 := by rw [ez', uX_k (by decide)]
      rw [zf (tid c1 + 1) (by omega) (by omega), hc]
      have no : ¬ pbn C D i = true → M_X2_layOut_12 4 c1 q n z ((i : Int) + 1) := fun h => by
        refine ih (i + 1) z (by omega) (by omega) zf z5 ?_ (by rw [z4]; exact h43)
        rw [z4, bts_no (by cases e : pbn C D i
                           · rfl
                           · exact absurd e h)]
        exact h42
      refine ⟨fun f => ⟨rg1 (by omega), no fun g => ?_⟩, fun f => ⟨by decide, ?_⟩⟩
      · have := (of_decide_eq_true g : i < C 1 ∧ D (4 + (4 * i + 3)) = 1).1
        omega
      · rw [show sI 1 (Int.toNat 1) = 1 from rfl, zf (tid c1 + 2) (by omega) (by omega), show ((1 + (i : Int)) * 4 + 3).toNat = 4 + (4 * i + 3) by omega, hd]
        refine ⟨⟨by omega, by omega⟩, fun g => ⟨rg1 (by omega), no fun g2 => g (of_decide_eq_true g2 : i < C 1 ∧ D (4 + (4 * i + 3)) = 1).2⟩, fun g w ew => ⟨rg1 (by omega), ?_⟩⟩
        have hp : pbn C D i = true := decide_eq_true ⟨by omega, g⟩
        refine ih (i + 1) w (by omega) (by omega) (fun k h1 h2 => by rw [ew, uX_k h1]; exact zf k h1 h2) (fun j hj => by rw [ew, uX_k (by decide)]; exact z5 j hj) ?_ (by rw [ew, uX_j (by decide), z4]; exact h43)
        rw [ew, uX_eq, z4, h42, bts_add (by omega) hp]
theorem c_layOut {x : XM} {c1 : Int} {C : Nat → Nat} {D : Nat → Int} {q : XM → Prop} (hc : x (tid c1 + 1) 1 = (C 1 : Int)) (hd : ∀ j, x (tid c1 + 2) j = D j) (hq : ∀ y, (∀ k, k ≠ 4 → k ≠ 5 → k ≠ 6 → y k = x k) → (∀ j, j < 12 → y 5 j = 6) → y 4 2 = ((bts (pbn C D) 12 : Nat) : Int) → y 4 3 = 0 → (∀ j : Nat, j < 6 → y 6 j = (j : Int)) → q y) : M_X2_layOut 4 c1 x q := by
  have htd := tid_c c1
  intro x1 e1 x2 e2
  have f2 : ∀ k, k ≠ 4 → x2 k = x k := fun k hk => by rw [e2, uX_k hk, e1, uX_k hk]
  refine ⟨13, c_lay12 (C := C) (D := D) (by rw [f2 _ (by omega)]; exact hc) (fun j => by rw [f2 _ (by omega)]; exact hd j) (fun y hf h5 h42 h43 => ⟨7, c_lay67 (fun z zf z6 => hq z (fun k h1 h2 h3 => by rw [zf k h3, hf k h1 h2, f2 k h1]) (fun j hj => by rw [zf 5 (by decide)]; exact h5 j hj) (by rw [zf 4 (by decide)]; exact h42) (by rw [zf 4 (by decide)]; exact h43) z6) 7 0 y (by omega) (by omega) (fun _ _ => rfl) (fun j hj => by omega)⟩) 13 0 x2 (by omega) (by omega) (fun _ _ _ => rfl) (fun j hj => by omega) ?_ (by rw [e2, uX_eq])⟩
  rw [e2, uX_j (by decide), e1, uX_eq]
  rfl
theorem CF.ts {s x z : XM} {C : Nat → Nat} {D : Nat → Int} (h : CF s x) (hV : VR C D) (h3 : z 3 1 = x 0 8) (h8 : z 0 8 = x 3 1) (h9 : z 0 9 = -1) (h11 : z 1 1 = 0) (hc : ∀ j, j < 5 → z (tid (x 0 8) + 1) j = (C j : Int)) (hd : ∀ j, z (tid (x 0 8) + 2) j = D j) (h5 : ∀ j, j < 12 → z 5 j = 6) (h42 : z 4 2 = ((bts (pbn C D) 12 : Nat) : Int)) (h43 : z 4 3 = 0) (h6 : ∀ j : Nat, j < 6 → z 6 j = (j : Int)) (h60 : z 60 2 = 0) (h10 : z 10 2 = 0) (h101 : z 10 1 = x 10 1) (h75 : z 75 2 = 0) (h79 : z 79 2 = 0) (h63 : z 63 0 = x 63 0) (hk : ∀ k, (12 ≤ k ∧ k < 60) ∨ (76 ≤ k ∧ k < 79) ∨ (80 ≤ k ∧ k < 83) → z k = x k) : CF (tS s C D) z := by
  have sn : ∀ j, j < 31 → snap z 4 j = laid C D j := fun j hj => by
    unfold snap laid
    by_cases c1 : j < 12
    · rw [if_pos c1, if_pos c1]
      show enc (z 5 j) = 0
      rw [h5 j c1]
      rfl
    · rw [if_neg c1, if_neg c1]
      by_cases c2 : j < 24
      · rw [if_pos c2, if_pos c2, h42]
        unfold tbit
        rw [Int.toNat_natCast, bts_bit, decide_eq_true (show j - 12 < 12 by omega), Bool.true_and]
        by_cases c3 : j - 12 < C 1
        · rw [if_pos c3]
          have v := hV 1 (by decide) (j - 12) c3 3 (by decide)
          rw [show 4 * (tbk 1 + (j - 12)) + 3 = 4 + (4 * (j - 12) + 3) by show 4 * (1 + (j - 12)) + 3 = _; omega] at v
          have v1 : 0 ≤ D (4 + (4 * (j - 12) + 3)) ∧ D (4 + (4 * (j - 12) + 3)) ≤ 1 := v
          by_cases c4 : D (4 + (4 * (j - 12) + 3)) = 1
          · rw [if_pos (show pbn C D (j - 12) = true from decide_eq_true ⟨c3, c4⟩), c4]
          · rw [if_neg (show ¬ pbn C D (j - 12) = true from fun g => c4 (of_decide_eq_true g : j - 12 < C 1 ∧ D (4 + (4 * (j - 12) + 3)) = 1).2)]
            omega
        · rw [if_neg c3, if_neg (show ¬ pbn C D (j - 12) = true from fun g => c3 (of_decide_eq_true g : j - 12 < C 1 ∧ D (4 + (4 * (j - 12) + 3)) = 1).1)]
      · rw [if_neg c2, if_neg c2]
        by_cases c3 : j < 30
        · rw [if_pos c3, if_pos c3]
          exact h6 (j - 24) (by omega)
        · rw [if_neg c3, if_neg c3]
          exact h43
  refine ⟨cS_ext (lt12 ?_ ?_ ?_ ?_ ?_ ?_ ?_ ?_ ?_ ?_ ?_ ?_) fun k hk j => ?_, ?_⟩
  · intro j
    show cS0 z j = tS0 s C D j
    unfold cS0 tS0
    rw [h3]
    match j with
    | 0 => exact hc 1 (by decide)
    | 1 => exact hc 2 (by decide)
    | 2 => exact hc 3 (by decide)
    | 3 => exact hc 4 (by decide)
    | 4 =>
      show (if z (tid (x 0 8) + 1) 0 = 0 then 0 else z (tid (x 0 8) + 2) 0) = if C 0 = 0 then 0 else D 0
      rw [hc 0 (by decide), hd 0]
      by_cases c : C 0 = 0
      · rw [if_pos c, if_pos (by omega)]
      · rw [if_neg c, if_neg (by omega)]
    | 5 => exact hc 0 (by decide)
    | 6 => exact h11
    | 7 => exact h9
    | 8 => exact h10
    | 9 => exact h60
    | 10 => exact h63.trans (h.e 0 10)
    | 11 => exact h75
    | 12 => exact h79
    | n + 13 => rfl
  · intro j
    rw [cS_1, h3, hc 1 (by decide), hd]
    show _ = if j < 4 * C 1 then D (4 + j) else 0
    by_cases c : j < 4 * C 1
    · rw [if_pos c, if_pos (by omega)]
    · rw [if_neg c, if_neg (by omega)]
  · intro j
    rw [cS_2, h3, hc 2 (by decide), hd]
    show _ = if j < 4 * C 2 then D (52 + j) else 0
    by_cases c : j < 4 * C 2
    · rw [if_pos c, if_pos (by omega)]
    · rw [if_neg c, if_neg (by omega)]
  · intro j
    rw [cS_3, h3, hc 3 (by decide), hd]
    show _ = if j < 4 * C 3 then D (76 + j) else 0
    by_cases c : j < 4 * C 3
    · rw [if_pos c, if_pos (by omega)]
    · rw [if_neg c, if_neg (by omega)]
  · intro j
    rw [cS_4, h3, hc 4 (by decide), hd]
    show _ = if j < C 4 then D (96 + 4 * j) else 0
    by_cases c : j < C 4
    · rw [if_pos c, if_pos (by omega)]
    · rw [if_neg c, if_neg (by omega)]
  · intro j
    rw [cS_5, h3, hc 1 (by decide), hc 2 (by decide), tS_5]
    by_cases c : j < 31
    · rw [if_pos c, if_pos c, sn j c]
    · rw [if_neg c, if_neg c]
  · intro j; rw [cS_6, h10, if_neg (by omega)]; rfl
  · intro j
    rw [cS_7, if_neg]
    · rfl
    · intro g
      have : j / 31 = 0 ∨ j / 31 = 1 := by omega
      rcases this with e | e
      · rw [e] at g
        have : z 75 2 = 1 := g.2
        omega
      · rw [e] at g
        have : z 79 2 = 1 := g.2
        omega
  · intro j; rw [cS_8, h11, if_neg (by omega)]; rfl
  · intro j; rw [cS_9, h60, if_neg (by omega)]; rfl
  · intro j; rw [cS_10, h60, if_neg (by omega)]; rfl
  · intro j
    rw [cS_11, if_neg]
    · rfl
    · intro g
      have : j = 0 ∨ j = 1 := by omega
      rcases this with e | e
      · rw [e] at g
        have : z 75 2 = 1 := g.2
        omega
      · rw [e] at g
        have : z 79 2 = 1 := g.2
        omega
  · obtain ⟨i, rfl⟩ : ∃ i, k = i + 12 := ⟨k - 12, by omega⟩
    rfl
  · obtain ⟨a1, a2, a3, a4⟩ := h.2
    refine ⟨by rw [h3, h8]; omega, fun kc hkc => ?_, by rw [h101]; exact a3, by rw [h101]; exact a4⟩
    by_cases c : kc = 4
    · rw [c]
      refine ⟨fun b hb => ?_, ?_, ?_⟩
      · have : z (4 + 1) b = 6 := h5 b hb
        omega
      · rw [h42]; omega
      · rw [h42]
        have := bts_lt (pbn C D) 12
        omega
    · have := lay2' hkc
      unfold CK
      rw [hk (kc + 1) (by omega), hk kc (by omega)]
      exact a2 kc hkc
theorem c_tin108 {x : XM} {q : Int → XM → Prop} (hq : ∀ y, (∀ k, k ≠ 75 → k ≠ 79 → y k = x k) → y 75 2 = 0 → y 79 2 = 0 → M_X0_count y 1 (fun z => q z y)) : ∃ m, M_X10_tin_108 q m x 0 := by
  refine ⟨3, ?_⟩
  unfold M_X10_tin_108
  refine iF (by decide) ⟨by decide, fun x1 e1 => ⟨⟨by decide, by decide⟩, ?_⟩⟩
  have e1' : x1 = uX x 75 2 0 := e1
  unfold M_X10_tin_108
  refine iF (by decide) ⟨by decide, fun x2 e2 => ⟨⟨by decide, by decide⟩, ?_⟩⟩
  have e2' : x2 = uX x1 79 2 0 := e2
  unfold M_X10_tin_108
  exact iT (by decide) (hq x2 (fun k h1 h2 => by rw [e2', uX_k h2, e1', uX_k h1]) (by rw [e2', uX_k (by decide), e1', uX_eq]) (by rw [e2', uX_eq]))
def uTin (s : XM) (D : Nat → Int) : Int × XM := if (PR s D).1 = 0 then (((PR s D).2.2.1 1 : Int), tS s (PR s D).2.2.1 (PR s D).2.2.2) else (-10 - (PR s D).1, faS s (PR s D).2.1)
theorem C_tin {s x : XM} {q : Int → XM → Prop} (h : CF s x) (k : Ok s) (hq : ∀ y : XM, CF (uTin s (x (tid (x 0 8) + 2))).2 y → Ok (uTin s (x (tid (x 0 8) + 2))).2 → Fr x y → q (uTin s (x (tid (x 0 8) + 2))).1 y) : M_X10_tin x q := by
  have hx := ok_x k
  have e6 : x 1 1 = s 0 6 := h.e 0 6
  have htd := tid_2 h.2
  have ht : Tx s x := ⟨by rw [e6]; exact hx.1, fun j hj => by rw [← h.e 8 j, cS_8, e6, if_pos (by omega)]⟩
  unfold uTin at hq
  refine c_readInto k ht (fun e z hz => iT rfl ?_) (fun e z hz hp => iF e ?_)
  · rw [if_pos e] at hq
    obtain ⟨hf, hp, hc, hd⟩ := hz
    have pc := PR_c (s := s) (D := x (tid (x 0 8) + 2))
    generalize (PR s (x (tid (x 0 8) + 2))).2.2.1 = C at *
    generalize (PR s (x (tid (x 0 8) + 2))).2.2.2 = D at *
    intro x4 e4 x5 e5 x6 e6 x7 e7
    have f5 : ∀ k, k ≠ 0 → k ≠ 1 → x5 k = z k := fun k h1 h2 => by rw [e5, uX_k h2, e4, uX_k h1]
    have g08 : x5 0 8 = x 0 8 := by rw [e5, uX_k (by decide), e4, uX_j (by decide), hf.1 0 (by decide) (by omega) (by omega)]
    have g31 : x5 3 1 = x 3 1 := by rw [f5 3 (by decide) (by decide), hf.1 3 (by decide) (by omega) (by omega)]
    rw [g08] at e6
    rw [g31] at e7
    have f7 : ∀ k, k ≠ 0 → k ≠ 1 → k ≠ 3 → x7 k = z k := fun k h1 h2 h3 => by rw [e7, uX_k h1, e6, uX_k h3, f5 k h1 h2]
    have h731 : x7 3 1 = x 0 8 := by rw [e7, uX_k (by decide), e6, uX_eq]
    rw [h731]
    refine c_layOut (C := C) (D := D) (by rw [f7 _ (by omega) (by omega) (by omega)]; exact hc 1 (by decide)) (fun j => by rw [f7 _ (by omega) (by omega) (by omega)]; exact hd j) fun x8 f8 h5 h42 h43 h6 x9 e9 x10 e10 => c_tin108 fun y fy y75 y79 => ?_
    have fo : ∀ k, k ≠ 4 → k ≠ 5 → k ≠ 6 → k ≠ 60 → k ≠ 10 → k ≠ 75 → k ≠ 79 → y k = x7 k := fun k h1 h2 h3 h4 h5 h6 h7 => by rw [fy k h6 h7, e10, uX_k h5, e9, uX_k h4, f8 k h1 h2 h3]
    have f456 : ∀ k, (k = 4 ∨ k = 5 ∨ k = 6) → y k = x8 k := fun k hk => by rw [fy k (by omega) (by omega), e10, uX_k (by omega), e9, uX_k (by omega)]
    have fz : ∀ k, k ≠ 1 → k ≠ tid (x 0 8) + 1 → k ≠ tid (x 0 8) + 2 → z k = x k := hf.1
    have y10 : ∀ j, j ≠ 2 → y 10 j = x 10 j := fun j hj => by rw [fy 10 (by decide) (by decide), e10, uX_j hj, e9, uX_k (by decide), f8 10 (by decide) (by decide) (by decide), f7 10 (by decide) (by decide) (by decide), fz 10 (by decide) (by omega) (by omega)]
    have cf : CF (tS s C D) y := by
      refine CF.ts h pc.2 ?_ ?_ ?_ ?_ ?_ ?_ ?_ ?_ ?_ ?_ ?_ ?_ (y10 1 (by decide)) y75 y79 ?_ ?_
      · rw [fo 3 (by decide) (by decide) (by decide) (by decide) (by decide) (by decide) (by decide)]; exact h731
      · rw [fo 0 (by decide) (by decide) (by decide) (by decide) (by decide) (by decide) (by decide), e7, uX_eq]
      · rw [fo 0 (by decide) (by decide) (by decide) (by decide) (by decide) (by decide) (by decide), e7, uX_j (by decide), e6, uX_k (by decide), e5, uX_k (by decide), e4, uX_eq]
      · rw [fo 1 (by decide) (by decide) (by decide) (by decide) (by decide) (by decide) (by decide), e7, uX_k (by decide), e6, uX_k (by decide), e5, uX_eq]
      · intro j hj
        rw [fo _ (by omega) (by omega) (by omega) (by omega) (by omega) (by omega) (by omega), f7 _ (by omega) (by omega) (by omega)]; exact hc j hj
      · intro j
        rw [fo _ (by omega) (by omega) (by omega) (by omega) (by omega) (by omega) (by omega), f7 _ (by omega) (by omega) (by omega)]; exact hd j
      · intro j hj; rw [f456 5 (by omega)]; exact h5 j hj
      · rw [f456 4 (by omega)]; exact h42
      · rw [f456 4 (by omega)]; exact h43
      · intro j hj; rw [f456 6 (by omega)]; exact h6 j hj
      · rw [fy 60 (by decide) (by decide), e10, uX_k (by decide), e9, uX_eq]
      · rw [fy 10 (by decide) (by decide), e10, uX_eq]
      · rw [fo 63 (by decide) (by decide) (by decide) (by decide) (by decide) (by decide) (by decide), f7 63 (by decide) (by decide) (by decide), fz 63 (by decide) (by omega) (by omega)]
      · intro k hk
        rw [fo k (by omega) (by omega) (by omega) (by omega) (by omega) (by omega) (by omega), f7 k (by omega) (by omega) (by omega), fz k (by omega) (by omega) (by omega)]
    refine c_count1 cf ?_
    exact hq y cf (ok_tS k pc.1 pc.2) fun k hk => by rw [fo k (by omega) (by omega) (by omega) (by omega) (by omega) (by omega) (by omega), f7 k (by omega) (by omega) (by omega), fz k (by omega) (by omega) (by omega)]
  · rw [if_neg e] at hq
    have pp := PR_p (s := s) (D := x (tid (x 0 8) + 2))
    intro x16 e16 x17 e17
    rw [hp] at e16
    refine ⟨⟨by omega, by omega⟩, hq x17 (h.fa (fun k h1 h2 h3 h4 h5 => by rw [e17, uX_k h3, e16, uX_k h2]; exact hz.1 k h3 h4 h5) (fun j hj => by rw [e17, uX_k (by decide), e16, uX_j hj, hz.1 0 (by decide) (by omega) (by omega)]) (by rw [e17, uX_k (by decide), e16, uX_eq]) (by rw [e17, uX_eq])) (ok_fa k (by omega)) fun k hk => by rw [e17, uX_k (by omega), e16, uX_k (by omega)]; exact hz.1 k (by omega) (by omega) (by omega)⟩
