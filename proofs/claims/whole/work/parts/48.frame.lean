theorem told_e {x y : XM} (hT : ∀ k, (k = 3 ∨ k = 8 ∨ k = 73) → y k = x k) : y (tid (y 3 1) + 1) = x (tid (x 3 1) + 1) := by
  rw [hT 3 (by decide)]
  rcases tid_c (x 3 1) with e | e <;> rw [e] <;> exact hT _ (by decide)
/-! ===== frames: all but the telling and the text may change ===== -/
theorem cs5 {s x y : XM} (h : CF s x) (hT : ∀ k, (k = 3 ∨ k = 8 ∨ k = 73) → y k = x k) (h4 : y 4 = x 4) (h5 : y 5 = x 5) (h6 : y 6 = x 6) (j : Nat) : cS y 5 j = s 5 j := by
  rw [← h.e 5 j, cS_5, cS_5, told_e hT]
  unfold snap
  rw [h4, h5, h6]
theorem cs6 {s x y : XM} (h : CF s x) (hT : ∀ k, (k = 3 ∨ k = 8 ∨ k = 73) → y k = x k) (h10 : y 10 = x 10) (hk : ∀ k, 12 ≤ k → k < 60 → y k = x k) (j : Nat) : cS y 6 j = s 6 j := by
  rw [← h.e 6 j, cS_6, cS_6, told_e hT]
  unfold ringc snap
  rw [h10, hk _ (by omega) (by omega), hk _ (by omega) (by omega), hk _ (by omega) (by omega)]
theorem cs7 {s x y : XM} (h : CF s x) (hT : ∀ k, (k = 3 ∨ k = 8 ∨ k = 73) → y k = x k) (hk : ∀ k, 75 ≤ k → k < 83 → y k = x k) (j : Nat) : cS y 7 j = s 7 j := by
  rw [← h.e 7 j, cS_7, cS_7, told_e hT]
  by_cases c : j < 62
  · unfold snap
    rw [hk _ (by omega) (by omega), hk _ (by omega) (by omega), hk _ (by omega) (by omega), hk _ (by omega) (by omega)]
  · rw [if_neg (fun e => c e.1), if_neg (fun e => c e.1)]
theorem cs11 {s x y : XM} (h : CF s x) (hk : ∀ k, 75 ≤ k → k < 83 → y k = x k) (j : Nat) : cS y 11 j = s 11 j := by
  rw [← h.e 11 j, cS_11, cS_11]
  by_cases c : j < 2
  · rw [hk _ (by omega) (by omega)]
  · rw [if_neg (fun e => c e.1), if_neg (fun e => c e.1)]
theorem cs9 {s x y : XM} (h : CF s x) (h0 : y 60 = x 60) (h1 : y 61 = x 61) (j : Nat) : cS y 9 j = s 9 j := by
  rw [← h.e 9 j, cS_9, cS_9, h0, h1]
theorem cs10 {s x y : XM} (h : CF s x) (h0 : y 60 = x 60) (h1 : y 62 = x 62) (j : Nat) : cS y 10 j = s 10 j := by
  rw [← h.e 10 j, cS_10, cS_10, h0, h1]
theorem CF.g {s x y t : XM} (h : CF s x) (hk : ∀ k, (k = 0 ∨ k = 1 ∨ k = 2 ∨ k = 3 ∨ k = 8 ∨ k = 9 ∨ k = 73 ∨ k = 74) → y k = x k) (hI : (∀ kc, (lay kc).1 = 2 → CK y kc) ∧ 0 ≤ y 10 1 ∧ y 10 1 < 16)
    (ht : ∀ k j, (k = 1 ∨ k = 2 ∨ k = 3 ∨ k = 4 ∨ k = 8 ∨ 12 ≤ k ∨ (k = 0 ∧ (j < 8 ∨ 12 < j))) → t k j = s k j)
    (c8 : y 10 2 = t 0 8) (c9 : y 60 2 = t 0 9) (c10 : y 63 0 = t 0 10) (c11 : y 75 2 = t 0 11) (c12 : y 79 2 = t 0 12)
    (d5 : ∀ j, cS y 5 j = t 5 j) (d6 : ∀ j, cS y 6 j = t 6 j) (d7 : ∀ j, cS y 7 j = t 7 j) (d9 : ∀ j, cS y 9 j = t 9 j) (d10 : ∀ j, cS y 10 j = t 10 j) (d11 : ∀ j, cS y 11 j = t 11 j) : CF t y := by
  have e3 := hk 3 (by decide)
  have et1 : y (tid (y 3 1) + 1) = x (tid (x 3 1) + 1) := by rw [e3]; rcases tid_c (x 3 1) with e | e <;> rw [e] <;> exact hk _ (by decide)
  have et2 : y (tid (y 3 1) + 2) = x (tid (x 3 1) + 2) := by rw [e3]; rcases tid_c (x 3 1) with e | e <;> rw [e] <;> exact hk _ (by decide)
  refine ⟨cS_ext (lt12 ?_ ?_ ?_ ?_ ?_ d5 d6 d7 ?_ d9 d10 d11) fun k hk j => by rw [ht k j (by omega), h.z hk], ?_, hI⟩
  all_goals try intro j
  · by_cases c : j < 8 ∨ 12 < j
    · rw [ht 0 j (by omega), ← h.e 0 j, cS_0, cS_0]
      unfold cS0
      rw [et1, et2, hk 1 (by decide), hk 0 (by decide)]
      match j, c with
      | 0, _ | 1, _ | 2, _ | 3, _ | 4, _ | 5, _ | 6, _ | 7, _ => rfl
      | n + 13, _ => rfl
    · match j, c with
      | 8, _ => exact c8
      | 9, _ => exact c9
      | 10, _ => exact c10
      | 11, _ => exact c11
      | 12, _ => exact c12
      | 0, c | 1, c | 2, c | 3, c | 4, c | 5, c | 6, c | 7, c => exact absurd (by decide) c
      | n + 13, c => exact absurd (by omega) c
  · rw [ht 1 j (by omega), ← h.e 1 j, cS_1, cS_1, et1, et2]
  · rw [ht 2 j (by omega), ← h.e 2 j, cS_2, cS_2, et1, et2]
  · rw [ht 3 j (by omega), ← h.e 3 j, cS_3, cS_3, et1, et2]
  · rw [ht 4 j (by omega), ← h.e 4 j, cS_4, cS_4, et1, et2]
  · rw [ht 8 j (by omega), ← h.e 8 j, cS_8, cS_8, hk 1 (by decide), hk 2 (by decide)]
  · rw [e3, hk 0 (by decide)]
    exact h.2.1
theorem rs5 {s x y : XM} (h : RF s x) (hF : ∀ j, (j = 3 ∨ j = 5) → y 83 j = x 83 j) (h1 : y 93 = x 93) (j : Nat) : rS y 5 j = s 5 j := by
  rw [← h.e 5 j, rS_5, rS_5, hF 3 (by decide), hF 5 (by decide), h1]
theorem rs6 {s x y : XM} (h : RF s x) (hF : ∀ j, (j = 3 ∨ j = 5) → y 83 j = x 83 j) (h0 : y 83 27 = x 83 27) (h1 : y 94 = x 94) (j : Nat) : rS y 6 j = s 6 j := by
  rw [← h.e 6 j, rS_6, rS_6, hF 3 (by decide), hF 5 (by decide), h0, h1]
theorem rs7 {s x y : XM} (h : RF s x) (hF : ∀ j, (j = 3 ∨ j = 5) → y 83 j = x 83 j) (h0 : y 97 = x 97) (h1 : y 95 = x 95) (j : Nat) : rS y 7 j = s 7 j := by
  rw [← h.e 7 j, rS_7, rS_7, hF 3 (by decide), hF 5 (by decide), h0, h1]
theorem rs9 {s x y : XM} (h : RF s x) (h0 : y 83 38 = x 83 38) (h1 : y 101 = x 101) (j : Nat) : rS y 9 j = s 9 j := by
  rw [← h.e 9 j, rS_9, rS_9, h0, h1]
theorem rs10 {s x y : XM} (h : RF s x) (h0 : y 83 38 = x 83 38) (h1 : y 102 = x 102) (j : Nat) : rS y 10 j = s 10 j := by
  rw [← h.e 10 j, rS_10, rS_10, h0, h1]
theorem rs11 {s x y : XM} (h : RF s x) (h0 : y 97 = x 97) (h1 : y 96 = x 96) (j : Nat) : rS y 11 j = s 11 j := by
  rw [← h.e 11 j, rS_11, rS_11, h0, h1]
theorem RF.g {s x y t : XM} (h : RF s x) (hk : ∀ k, (k = 84 ∨ k = 85 ∨ k = 86 ∨ k = 87 ∨ k = 88) → y k = x k) (hf : ∀ j, (j = 1 ∨ j = 2 ∨ j = 3 ∨ j = 5 ∨ j = 7 ∨ j = 9 ∨ j = 20 ∨ j = 21) → y 83 j = x 83 j)
    (ht : ∀ k j, (k = 1 ∨ k = 2 ∨ k = 3 ∨ k = 4 ∨ k = 8 ∨ 12 ≤ k ∨ (k = 0 ∧ (j < 8 ∨ 12 < j))) → t k j = s k j)
    (c8 : y 83 27 = t 0 8) (c9 : y 83 38 = t 0 9) (c10 : y 83 31 = t 0 10) (c11 : y 97 0 = t 0 11) (c12 : y 97 1 = t 0 12)
    (d5 : ∀ j, rS y 5 j = t 5 j) (d6 : ∀ j, rS y 6 j = t 6 j) (d7 : ∀ j, rS y 7 j = t 7 j) (d9 : ∀ j, rS y 9 j = t 9 j) (d10 : ∀ j, rS y 10 j = t 10 j) (d11 : ∀ j, rS y 11 j = t 11 j) : RF t y := by
  refine ⟨rS_ext (lt12 ?_ ?_ ?_ ?_ ?_ d5 d6 d7 ?_ d9 d10 d11) fun k hk j => by rw [ht k j (by omega), h.z hk], ?_⟩
  all_goals intro j
  · by_cases c : j < 8 ∨ 12 < j
    · rw [ht 0 j (by omega), ← h.e 0 j, rS_0, rS_0]
      unfold rS0
      rw [hf 3 (by decide), hf 5 (by decide), hf 7 (by decide), hf 9 (by decide), hf 2 (by decide), hf 20 (by decide), hf 1 (by decide), hf 21 (by decide)]
      match j, c with
      | 0, _ | 1, _ | 2, _ | 3, _ | 4, _ | 5, _ | 6, _ | 7, _ => rfl
      | n + 13, _ => rfl
    · match j, c with
      | 8, _ => exact c8
      | 9, _ => exact c9
      | 10, _ => exact c10
      | 11, _ => exact c11
      | 12, _ => exact c12
      | 0, c | 1, c | 2, c | 3, c | 4, c | 5, c | 6, c | 7, c => exact absurd (by decide) c
      | n + 13, c => exact absurd (by omega) c
  · rw [ht 1 j (by omega), ← h.e 1 j, rS_1, rS_1, hf 3 (by decide), hk 85 (by decide)]
  · rw [ht 2 j (by omega), ← h.e 2 j, rS_2, rS_2, hf 5 (by decide), hk 86 (by decide)]
  · rw [ht 3 j (by omega), ← h.e 3 j, rS_3, rS_3, hf 7 (by decide), hk 87 (by decide)]
  · rw [ht 4 j (by omega), ← h.e 4 j, rS_4, rS_4, hf 9 (by decide), hk 88 (by decide)]
  · rw [ht 8 j (by omega), ← h.e 8 j, rS_8, rS_8, hf 1 (by decide), hk 84 (by decide)]
  · rw [hk 84 (by decide)]
    exact h.2 j
/-- the seed -/
theorem CF.seed {s x : XM} {z : Int} (h : CF s x) : CF (uX s 0 10 z) (uX x 63 0 z) := by
  have u : ∀ k, k ≠ 63 → uX x 63 0 z k = x k := fun k hk => uX_k hk
  refine h.g (fun k hk => u k (by omega)) ⟨fun kc hk => ?_, by rw [u 10 (by decide)]; exact h.2.2.2.1, by rw [u 10 (by decide)]; exact h.2.2.2.2⟩ (fun k j hk => uX_ne (by omega)) ?_ ?_ ?_ ?_ ?_ ?_ ?_ ?_ ?_ ?_ ?_
  · have := lay2' hk
    unfold CK
    rw [u (kc + 1) (by omega), u kc (by omega)]
    exact h.2.2.1 kc hk
  · rw [u 10 (by decide), uX_j (by decide)]; exact h.e 0 8
  · rw [u 60 (by decide), uX_j (by decide)]; exact h.e 0 9
  · rw [uX_eq, uX_eq]
  · rw [u 75 (by decide), uX_j (by decide)]; exact h.e 0 11
  · rw [u 79 (by decide), uX_j (by decide)]; exact h.e 0 12
  all_goals intro j; rw [uX_k (x := s) (by decide)]
  · exact cs5 h (fun k hk => u k (by omega)) (u _ (by decide)) (u _ (by decide)) (u _ (by decide)) j
  · exact cs6 h (fun k hk => u k (by omega)) (u _ (by decide)) (fun k h1 h2 => u _ (by omega)) j
  · exact cs7 h (fun k hk => u k (by omega)) (fun k h1 h2 => u k (by omega)) j
  · exact cs9 h (u _ (by decide)) (u _ (by decide)) j
  · exact cs10 h (u _ (by decide)) (u _ (by decide)) j
  · exact cs11 h (fun k h1 h2 => u _ (by omega)) j
theorem RF.seed {s x : XM} {z : Int} (h : RF s x) : RF (uX s 0 10 z) (uX x 83 31 z) := by
  have u : ∀ k, k ≠ 83 → uX x 83 31 z k = x k := fun k hk => uX_k hk
  have v : ∀ j, j ≠ 31 → uX x 83 31 z 83 j = x 83 j := fun j hj => uX_j hj
  refine h.g (fun k hk => u k (by omega)) (fun j hj => v j (by omega)) (fun k j hk => uX_ne (by omega)) ?_ ?_ ?_ ?_ ?_ ?_ ?_ ?_ ?_ ?_ ?_
  · rw [v 27 (by decide), uX_j (by decide)]; exact h.e 0 8
  · rw [v 38 (by decide), uX_j (by decide)]; exact h.e 0 9
  · rw [uX_eq, uX_eq]
  · rw [u 97 (by decide), uX_j (by decide)]; exact h.e 0 11
  · rw [u 97 (by decide), uX_j (by decide)]; exact h.e 0 12
  all_goals intro j; rw [uX_k (x := s) (by decide)]
  · exact rs5 h (fun j hj => v j (by omega)) (u _ (by decide)) j
  · exact rs6 h (fun j hj => v j (by omega)) (v _ (by decide)) (u _ (by decide)) j
  · exact rs7 h (fun j hj => v j (by omega)) (u _ (by decide)) (u _ (by decide)) j
  · exact rs9 h (v _ (by decide)) (u _ (by decide)) j
  · exact rs10 h (v _ (by decide)) (u _ (by decide)) j
  · exact rs11 h (u _ (by decide)) (u _ (by decide)) j
/-- Ok, when the telling and the text are the same -/
theorem Ok.g {s t : XM} (k : Ok s) (ht : ∀ k j, (k = 1 ∨ k = 2 ∨ k = 3 ∨ k = 4 ∨ k = 8 ∨ (k = 0 ∧ j < 8)) → t k j = s k j) (h8 : 0 ≤ t 0 8 ∧ t 0 8 ≤ 16) (h9 : 0 ≤ t 0 9 ∧ t 0 9 ≤ 15) (h10 : 0 ≤ t 0 10 ∧ t 0 10 < 2147483648) (h5 : SnOk t 5 0) (hp : OkP t) (hi : OkI t) (hb : OkB t) : Ok t := by
  obtain ⟨k1, k2, k3, k4, k5, k6, k7⟩ := k
  obtain ⟨a0, a1, a2, a3, a4, a5, a6, a7, a8, a9, a10⟩ := k1
  refine ⟨?_, ?_, h5, hp, hi, hb, ?_⟩
  · unfold OkN
    rw [ht 0 0 (by decide), ht 0 1 (by decide), ht 0 2 (by decide), ht 0 3 (by decide), ht 0 4 (by decide), ht 0 5 (by decide), ht 0 6 (by decide), ht 0 7 (by decide)]
    exact ⟨a0, a1, a2, a3, a4, a5, a6, a7, h8, h9, h10⟩
  · have e1 : t 1 = s 1 := funext fun j => ht 1 j (by omega)
    have e2 : t 2 = s 2 := funext fun j => ht 2 j (by omega)
    have e3 : t 3 = s 3 := funext fun j => ht 3 j (by omega)
    have e4 : t 4 = s 4 := funext fun j => ht 4 j (by omega)
    unfold OkT MkOk RuOk
    rw [e1, e2, e3, e4, ht 0 0 (by decide), ht 0 1 (by decide), ht 0 2 (by decide), ht 0 3 (by decide)]
    exact k2
  · unfold OkX
    rw [ht 0 6 (by decide), show t 8 = s 8 from funext fun j => ht 8 j (by omega)]
    exact k7
theorem Ok.seed {s : XM} {z : Int} (k : Ok s) (hz : 0 ≤ z ∧ z < 2147483648) : Ok (uX s 0 10 z) := by
  have hr := k.r
  have hp := k.2.2.2
  have u : ∀ k, k ≠ 0 → uX s 0 10 z k = s k := fun k hk => uX_k hk
  have v : ∀ j, j ≠ 10 → uX s 0 10 z 0 j = s 0 j := fun j hj => uX_j hj
  have sn : ∀ {kk o : Nat}, kk ≠ 0 → SnOk s kk o → SnOk (uX s 0 10 z) kk o := fun hk h => h.cong (by omega) (v 0 (by decide)) (v 1 (by decide)) fun c hc => by rw [u _ hk]
  refine k.g (fun k j hk => uX_ne (by omega)) (by rw [v 8 (by decide)]; exact k.1.2.2.2.2.2.2.2.2.1) (by rw [v 9 (by decide)]; exact k.1.2.2.2.2.2.2.2.2.2.1) (by rw [uX_eq]; exact hz) (sn (by decide) k.sn) ?_ ?_ ?_
  · intro i hi
    rw [v 8 (by decide)] at hi
    exact sn (by decide) (hp.1 i hi)
  · intro i hi
    rw [v (11 + i) (by omega), u 11 (by decide)]
    rcases hp.2.1 i hi with e | ⟨e1, e2, e3⟩
    · exact Or.inl e
    · exact Or.inr ⟨e1, sn (by decide) e2, e3⟩
  · intro i hi
    rw [v 9 (by decide)] at hi
    rw [v 0 (by decide), u 9 (by decide), u 10 (by decide)]
    exact hp.2.2.1 i hi
def uSee (s : XM) (v1 : Int) : Int × XM := if 0 ≤ v1 then (s 0 10, uX s 0 10 v1) else (-1000000002, s)
theorem C_seed {s x : XM} {v1 : Int} {q : Int → XM → Prop} (h : CF s x) (k : Ok s) (hr : Rg v1) (hq : ∀ y : XM, CF (uSee s v1).2 y → Ok (uSee s v1).2 → Fr x y → q (uSee s v1).1 y) : M_X10_seed x v1 q := by
  unfold uSee at hq
  refine ⟨fun c y ey => ?_, fun c => ?_⟩
  · rw [if_pos c] at hq
    rw [ey, show x 63 0 = s 0 10 from h.e 0 10]
    exact hq _ h.seed (k.seed ⟨c, hr.2⟩) fun k hk => uX_k (by omega)
  · rw [if_neg c] at hq
    exact hq x h k fun _ _ => rfl
theorem R_seed {s x : XM} {v1 : Int} {q : Int → XM → Prop} (h : RF s x) (hq : ∀ y : XM, RF (uSee s v1).2 y → Gr x y → q (uSee s v1).1 y) : M_X11_seed x v1 q := by
  unfold uSee at hq
  refine ⟨fun c y ey => ?_, fun c => ?_⟩
  · rw [if_pos c] at hq
    rw [ey, show x 83 31 = s 0 10 from h.e 0 10]
    exact hq _ h.seed fun k hk => uX_k (by omega)
  · rw [if_neg c] at hq
    exact hq x h fun _ _ => rfl
/-- undo -/
def undS (s : XM) : XM := fun k j => if k = 5 then (if j < 31 then s 6 (31 * ((s 0 8).toNat - 1) + j) else 0) else if k = 6 then (if (j : Int) < 31 * (s 0 8 - 1) then s 6 j else 0) else if k = 0 ∧ j = 8 then s 0 8 - 1 else s k j
theorem undS_o {s : XM} {k j : Nat} (h5 : k ≠ 5) (h6 : k ≠ 6) (h8 : ¬ (k = 0 ∧ j = 8)) : undS s k j = s k j := by
  unfold undS
  rw [if_neg h5, if_neg h6, if_neg h8]
theorem undS_5 {s : XM} {j : Nat} : undS s 5 j = if j < 31 then s 6 (31 * ((s 0 8).toNat - 1) + j) else 0 := rfl
theorem undS_6 {s : XM} {j : Nat} : undS s 6 j = if (j : Int) < 31 * (s 0 8 - 1) then s 6 j else 0 := rfl
theorem undS_8 {s : XM} : undS s 0 8 = s 0 8 - 1 := rfl
theorem Ok.und {s : XM} (k : Ok s) (h : ¬ s 0 8 = 0) : Ok (undS s) := by
  have hr := k.r
  have h8 := k.1.2.2.2.2.2.2.2.2.1
  have hp := k.2.2.2
  have v : ∀ j, j ≠ 8 → undS s 0 j = s 0 j := fun j hj => undS_o (by decide) (by decide) (by omega)
  refine k.g (fun k j hk => undS_o (by omega) (by omega) (by omega)) (by rw [undS_8]; omega) (by rw [v 9 (by decide)]; exact k.1.2.2.2.2.2.2.2.2.2.1) (by rw [v 10 (by decide)]; exact k.1.2.2.2.2.2.2.2.2.2.2) ?_ ?_ ?_ ?_
  · refine (hp.1 ((s 0 8).toNat - 1) (by omega)).cong (by omega) (v 0 (by decide)) (v 1 (by decide)) fun c hc => ?_
    rw [undS_5, Nat.zero_add, if_pos hc]
  · intro i hi
    rw [undS_8] at hi
    refine (hp.1 i (by omega)).cong (by omega) (v 0 (by decide)) (v 1 (by decide)) fun c hc => ?_
    rw [undS_6, if_pos (by omega)]
  · intro i hi
    rw [v (11 + i) (by omega), undS_o (k := 11) (by decide) (by decide) (by omega)]
    rcases hp.2.1 i hi with e | ⟨e1, e2, e3⟩
    · exact Or.inl e
    · exact Or.inr ⟨e1, e2.cong (by omega) (v 0 (by decide)) (v 1 (by decide)) fun c hc => undS_o (by decide) (by decide) (by omega), e3⟩
  · intro i hi
    rw [v 9 (by decide)] at hi
    rw [v 0 (by decide), undS_o (by decide) (by decide) (by omega), undS_o (by decide) (by decide) (by omega)]
    exact hp.2.2.1 i hi
def uUnd (s : XM) : Int × XM := if s 0 8 = 0 then (-1000000003, s) else (s 0 8 - 1, undS s)
theorem C_undo {s x : XM} {q : Int → XM → Prop} (h : CF s x) (k : Ok s) (hq : ∀ y : XM, CF (uUnd s).2 y → Ok (uUnd s).2 → Fr x y → q (uUnd s).1 y) : M_X10_undo x q := by
  have e8 : x 10 2 = s 0 8 := h.e 0 8
  have h8 := k.1.2.2.2.2.2.2.2.2.1
  have hw := h.2.2.2
  unfold uUnd at hq
  unfold M_X10_undo
  rw [e8]
  refine ⟨fun c => ⟨⟨by omega, by omega⟩, by omega, fun x3 ez => ?_⟩, fun c => by rw [if_pos c] at hq; exact hq x h k fun _ _ => rfl⟩
  rw [if_neg c] at hq
  have f2 : x3 10 2 = s 0 8 := by rw [ez, uX_j (by decide), e8]
  rw [f2]
  refine ⟨⟨by omega, by omega⟩, fun x5 e5 => ?_⟩
  have g1 : x5 10 1 = ((x 10 1) + 16 - 1) % 16 := by rw [e5, uX_j (by decide), ez, uX_eq]
  have g2 : x5 10 2 = s 0 8 - 1 := by rw [e5, uX_eq]
  have g3 : ∀ k, k ≠ 10 → x5 k = x k := fun k hk => by rw [e5, uX_k hk, ez, uX_k hk]
  obtain ⟨w, hw1, hw2⟩ : ∃ w : Nat, x5 10 1 = (w : Int) ∧ w < 16 := ⟨(x5 10 1).toNat, by omega, by omega⟩
  rw [hw1, Int.toNat_natCast]
  refine ⟨⟨by omega, by omega⟩, s_copyFrom (by omega) fun y f1 f2 f3 f4 f5 => ?_⟩
  have m : ∀ k, k ≠ 10 → k ≠ 4 → k ≠ 5 → k ≠ 6 → y k = x k := fun k h0 h1 h2 h3 => by rw [f1 k h1 h2 h3, g3 k h0]
  have y10 : y 10 = x5 10 := f1 10 (by decide) (by decide) (by decide)
  show q (y 10 2) y
  rw [show y 10 2 = s 0 8 - 1 by rw [y10, g2]]
  have hq : ∀ y : XM, CF (undS s) y → Ok (undS s) → Fr x y → q (s 0 8 - 1) y := hq
  have hs : ∀ j, snap y 4 j = snap x (12 + 3 * w) j := fun j => by
    refine snap_cong (fun c hc => ?_) (fun c hc => ?_) ?_ ?_
    · rw [← g3 _ (by omega)]; exact f2 c hc
    · rw [← g3 _ (by omega)]; exact f3 c hc
    · rw [← g3 _ (by omega)]; exact f4
    · rw [← g3 _ (by omega)]; exact f5
  have ck : ∀ kc, (lay kc).1 = 2 → CK y kc := fun kc hk => by
    have l2 := lay2' hk
    by_cases c4 : kc = 4
    · have cr := h.2.2.1 (12 + 3 * w) ((by decide : ∀ w, w < 16 → (lay (12 + 3 * w)).1 = 2) w hw2)
      rw [c4]
      refine ⟨fun b hb => ?_, ?_⟩
      · rw [f2 b hb, g3 _ (by omega)]; exact cr.1 b hb
      · rw [f4, g3 _ (by omega)]; exact cr.2
    · unfold CK
      rw [m (kc + 1) (by omega) (by omega) (by omega) (by omega), m kc (by omega) (by omega) (by omega) (by omega)]
      exact h.2.2.1 kc hk
  have tt := told_e (x := x) (y := y) (fun k hk => m k (by omega) (by omega) (by omega) (by omega))
  have t0 : y (tid (y 3 1) + 1) 1 = s 0 0 := by rw [tt]; exact h.e 0 0
  have t1 : y (tid (y 3 1) + 1) 2 = s 0 1 := by rw [tt]; exact h.e 0 1
  have o : ∀ k j, k ≠ 5 → k ≠ 6 → ¬ (k = 0 ∧ j = 8) → undS s k j = s k j := fun k j => undS_o
  refine hq y (h.g (fun k hk => m k (by omega) (by omega) (by omega) (by omega)) ⟨ck, by rw [y10]; omega, by rw [y10]; omega⟩ (fun k j hk => o k j (by omega) (by omega) (by omega)) ?_ ?_ ?_ ?_ ?_ ?_ ?_ ?_ ?_ ?_ ?_) (k.und c) fun k hk => m k (by omega) (by omega) (by omega) (by omega)
  · rw [y10, g2]; rfl
  · rw [m 60 (by decide) (by decide) (by decide) (by decide)]; exact h.e 0 9
  · rw [m 63 (by decide) (by decide) (by decide) (by decide)]; exact h.e 0 10
  · rw [m 75 (by decide) (by decide) (by decide) (by decide)]; exact h.e 0 11
  · rw [m 79 (by decide) (by decide) (by decide) (by decide)]; exact h.e 0 12
  · intro j
    rw [cS_5, undS_5, t0, t1]
    by_cases c5 : j < 31
    · rw [if_pos c5, if_pos c5, hs, h.pa (by omega)]
      unfold ringc
      rw [e8, show (31 * ((s 0 8).toNat - 1) + j) / 31 = (s 0 8).toNat - 1 by omega, show (31 * ((s 0 8).toNat - 1) + j) % 31 = j by omega]
      refine congrArg (fun kc => msk (s 0 0) (s 0 1) j (snap x kc j)) ?_
      omega
    · rw [if_neg c5, if_neg c5]
  · intro j
    rw [cS_6, undS_6, y10, g2, t0, t1]
    by_cases c5 : (j : Int) < 31 * (s 0 8 - 1)
    · rw [if_pos c5, if_pos c5, h.pa (by omega)]
      have er : ringc y (j / 31) = ringc x (j / 31) := by
        unfold ringc
        rw [y10, g2, hw1, e8]
        omega
      rw [er]
      have : 12 ≤ ringc x (j / 31) ∧ ringc x (j / 31) < 60 := by unfold ringc; omega
      unfold snap
      rw [m _ (by omega) (by omega) (by omega) (by omega), m _ (by omega) (by omega) (by omega) (by omega), m _ (by omega) (by omega) (by omega) (by omega)]
    · rw [if_neg c5, if_neg c5]
  all_goals intro j; rw [o _ j (by decide) (by decide) (by omega)]
  · exact cs7 h (fun k hk => m k (by omega) (by omega) (by omega) (by omega)) (fun k h1 h2 => m k (by omega) (by omega) (by omega) (by omega)) j
  · exact cs9 h (m _ (by decide) (by decide) (by decide) (by decide)) (m _ (by decide) (by decide) (by decide) (by decide)) j
  · exact cs10 h (m _ (by decide) (by decide) (by decide) (by decide)) (m _ (by decide) (by decide) (by decide) (by decide)) j
  · exact cs11 h (fun k h1 h2 => m k (by omega) (by omega) (by omega) (by omega)) j
def cpY (x : XM) (k0 o i : Nat) : XM := fun a b => if a = 93 ∧ b < i then x k0 (o + b) else x a b
theorem cpY_s {x : XM} {k0 o i : Nat} (hk : k0 ≠ 93) : uX (cpY x k0 o i) 93 i (cpY x k0 o i k0 (o + i)) = cpY x k0 o (i + 1) := by
  funext a b
  unfold uX cpY
  rw [if_neg (show ¬ (k0 = 93 ∧ o + i < i) by omega)]
  by_cases c1 : a = 93 ∧ b = i
  · rw [if_pos c1, if_pos (by omega), c1.2]
  · rw [if_neg c1]
    by_cases c2 : a = 93 ∧ b < i
    · rw [if_pos c2, if_pos (by omega)]
    · rw [if_neg c2, if_neg (by omega)]
theorem cpY_0 {x : XM} {k0 o : Nat} : cpY x k0 o 0 = x := by
  funext a b
  exact if_neg (by omega)
theorem cpY_k {x : XM} {k0 o i k : Nat} (h : k ≠ 93) : cpY x k0 o i k = x k := by
  funext b
  exact if_neg fun e => h e.1
theorem r_undo_22 {x : XM} {q : Int → XM → Prop} {o : Nat} (h0 : 31 * x 83 27 = (o : Int)) (h1 : o + 31 ≤ 496) (hq : q (x 83 27) (cpY x 94 o 31)) (n : Nat) : ∀ i, i ≤ 31 → 31 < i + n → M_X11_undo_22 q n (cpY x 94 o i) (i : Int) := by
  induction n with
  | zero => intro i h1 h2; omega
  | succ n ih =>
    intro i a1 a2
    unfold M_X11_undo_22
    rw [cpY_k (k := 83) (by decide)]
    refine ⟨fun c => by rw [show i = 31 by omega]; exact hq, fun c => ⟨⟨by omega, by omega⟩, ⟨by omega, by omega⟩, fun y ey => ⟨rg1 (by omega), ?_⟩⟩⟩
    rw [Int.toNat_natCast, show (31 * x 83 27 + (i : Int)).toNat = o + i by omega, cpY_s (by decide)] at ey
    rw [ey]
    exact ih (i + 1) (by omega) (by omega)
theorem R_undo {s x : XM} {q : Int → XM → Prop} (h : RF s x) (k : Ok s) (hq : ∀ y : XM, RF (uUnd s).2 y → Gr x y → q (uUnd s).1 y) : M_X11_undo x q := by
  have e8 : x 83 27 = s 0 8 := h.e 0 8
  have h8 := k.1.2.2.2.2.2.2.2.2.1
  unfold uUnd at hq
  unfold M_X11_undo
  rw [e8]
  refine ⟨fun c => ⟨⟨by omega, by omega⟩, fun x3 ez => ⟨32, ?_⟩⟩, fun c => by rw [if_pos c] at hq; exact hq x h fun _ _ => rfl⟩
  rw [if_neg c] at hq
  have hq : ∀ y : XM, RF (undS s) y → Gr x y → q (s 0 8 - 1) y := hq
  have g1 : x3 83 27 = s 0 8 - 1 := by rw [ez, uX_eq]
  have g2 : ∀ j, j ≠ 27 → x3 83 j = x 83 j := fun j hj => by rw [ez, uX_j hj]
  have g3 : ∀ k, k ≠ 83 → x3 k = x k := fun k hk => by rw [ez, uX_k hk]
  have := r_undo_22 (x := x3) (q := q) (o := 31 * ((s 0 8).toNat - 1)) (by omega) (by omega) ?_ 32 0 (by decide) (by decide)
  · rw [cpY_0] at this
    exact this
  · rw [g1]
    have m : ∀ k, k ≠ 83 → k ≠ 93 → cpY x3 94 (31 * ((s 0 8).toNat - 1)) 31 k = x k := fun k h1 h2 => by rw [cpY_k h2, g3 k h1]
    have m2 : ∀ j, j ≠ 27 → cpY x3 94 (31 * ((s 0 8).toNat - 1)) 31 83 j = x 83 j := fun j hj => by rw [cpY_k (by decide), g2 j hj]
    have m3 : cpY x3 94 (31 * ((s 0 8).toNat - 1)) 31 83 27 = s 0 8 - 1 := by rw [cpY_k (by decide), g1]
    have o : ∀ k j, k ≠ 5 → k ≠ 6 → ¬ (k = 0 ∧ j = 8) → undS s k j = s k j := fun k j => undS_o
    refine hq _ (h.g (fun k hk => m k (by omega) (by omega)) (fun j hj => m2 j (by omega)) (fun k j hk => o k j (by omega) (by omega) (by omega)) ?_ ?_ ?_ ?_ ?_ ?_ ?_ ?_ ?_ ?_ ?_) fun k hk => m k (by omega) (by omega)
    · rw [m3]; rfl
    · rw [m2 38 (by decide)]; exact h.e 0 9
    · rw [m2 31 (by decide)]; exact h.e 0 10
    · rw [m 97 (by decide) (by decide)]; exact h.e 0 11
    · rw [m 97 (by decide) (by decide)]; exact h.e 0 12
    · intro j
      rw [rS_5, undS_5, m2 3 (by decide), m2 5 (by decide), show x 83 3 = s 0 0 from h.e 0 0, show x 83 5 = s 0 1 from h.e 0 1]
      by_cases c5 : j < 31
      · rw [if_pos c5, if_pos c5, ← h.pa (by omega)]
        unfold cpY
        rw [if_pos ⟨rfl, c5⟩, g3 94 (by decide), show (31 * ((s 0 8).toNat - 1) + j) % 31 = j by omega]
      · rw [if_neg c5, if_neg c5]
    · intro j
      rw [rS_6, undS_6, m3, m 94 (by decide) (by decide), m2 3 (by decide), m2 5 (by decide), show x 83 3 = s 0 0 from h.e 0 0, show x 83 5 = s 0 1 from h.e 0 1]
      by_cases c5 : (j : Int) < 31 * (s 0 8 - 1)
      · rw [if_pos c5, if_pos c5, h.pa (by omega)]
      · rw [if_neg c5, if_neg c5]
    all_goals intro j; rw [o _ j (by decide) (by decide) (by omega)]
    · exact rs7 h (fun j hj => m2 j (by omega)) (m _ (by decide) (by decide)) (m _ (by decide) (by decide)) j
    · exact rs9 h (m2 _ (by decide)) (m _ (by decide) (by decide)) j
    · exact rs10 h (m2 _ (by decide)) (m _ (by decide) (by decide)) j
    · exact rs11 h (m _ (by decide) (by decide)) (m _ (by decide) (by decide)) j
