/-! ===== the book, the images, the text ===== -/
theorem CF.bk {s x : XM} (h : CF s x) {i : Nat} (hi : (i : Int) < s 0 9) : s 9 i = x 61 i ∧ s 10 i = x 62 i := by
  have e : x 60 2 = s 0 9 := h.e 0 9
  rw [← h.e 9 i, ← h.e 10 i, cS_9, cS_10, e, if_pos hi, if_pos hi]
  exact ⟨rfl, rfl⟩
theorem RF.bk {s x : XM} (h : RF s x) {i : Nat} (hi : (i : Int) < s 0 9) : s 9 i = x 101 i ∧ s 10 i = x 102 i := by
  have e : x 83 38 = s 0 9 := h.e 0 9
  rw [← h.e 9 i, ← h.e 10 i, rS_9, rS_10, e, if_pos hi, if_pos hi]
  exact ⟨rfl, rfl⟩
def wrS (s : XM) (v1 v2 : Int) : XM := fun k j => if k = 9 ∧ (j : Int) = s 0 9 then v1 else if k = 10 ∧ (j : Int) = s 0 9 then v2 else if k = 0 ∧ j = 9 then s 0 9 + 1 else s k j
theorem wrS_o {s : XM} {v1 v2 : Int} {k j : Nat} (h9 : k ≠ 9) (h10 : k ≠ 10) (h0 : ¬ (k = 0 ∧ j = 9)) : wrS s v1 v2 k j = s k j := by
  unfold wrS
  rw [if_neg fun e => h9 e.1, if_neg fun e => h10 e.1, if_neg h0]
theorem wrS_n {s : XM} {v1 v2 : Int} : wrS s v1 v2 0 9 = s 0 9 + 1 := rfl
theorem wrS_9 {s : XM} {v1 v2 : Int} {j : Nat} : wrS s v1 v2 9 j = if (j : Int) = s 0 9 then v1 else s 9 j := by
  unfold wrS
  by_cases c : (j : Int) = s 0 9
  · rw [if_pos ⟨rfl, c⟩, if_pos c]
  · rw [if_neg (fun e => c e.2), if_neg (by omega), if_neg (by omega), if_neg c]
theorem wrS_10 {s : XM} {v1 v2 : Int} {j : Nat} : wrS s v1 v2 10 j = if (j : Int) = s 0 9 then v2 else s 10 j := by
  unfold wrS
  by_cases c : (j : Int) = s 0 9
  · rw [if_neg (by omega), if_pos ⟨rfl, c⟩, if_pos c]
  · rw [if_neg (by omega), if_neg (fun e => c e.2), if_neg (by omega), if_neg c]
theorem Ok.i9 {s : XM} (k : Ok s) : 0 ≤ s 0 9 ∧ s 0 9 ≤ 15 := k.1.2.2.2.2.2.2.2.2.2.1
theorem Ok.i8 {s : XM} (k : Ok s) : 0 ≤ s 0 8 ∧ s 0 8 ≤ 16 := k.1.2.2.2.2.2.2.2.2.1
theorem Ok.wr {s : XM} {v1 v2 : Int} (k : Ok s) (h15 : s 0 9 < 15) (h1 : 0 ≤ v1 ∧ v1 < s 0 0) (h2 : -1 ≤ v2 ∧ v2 ≤ 5) : Ok (wrS s v1 v2) := by
  have hr := k.r
  have h9 := k.i9
  have hp := k.2.2.2
  have v : ∀ j, j ≠ 9 → wrS s v1 v2 0 j = s 0 j := fun j hj => wrS_o (by decide) (by decide) (by omega)
  have sn : ∀ {kk o : Nat}, kk = 5 ∨ kk = 6 ∨ kk = 7 → SnOk s kk o → SnOk (wrS s v1 v2) kk o := fun hk h => h.cong (by omega) (v 0 (by decide)) (v 1 (by decide)) fun c hc => wrS_o (by omega) (by omega) (by omega)
  refine k.g (fun k j hk => wrS_o (by omega) (by omega) (by omega)) (by rw [v 8 (by decide)]; exact k.i8) (by rw [wrS_n]; omega) (by rw [v 10 (by decide)]; exact k.sd) (sn (by decide) k.sn) ?_ ?_ ?_
  · intro i hi
    rw [v 8 (by decide)] at hi
    exact sn (by decide) (hp.1 i hi)
  · intro i hi
    rw [v (11 + i) (by omega), wrS_o (k := 11) (by decide) (by decide) (by omega)]
    rcases hp.2.1 i hi with e | ⟨e1, e2, e3⟩
    · exact Or.inl e
    · exact Or.inr ⟨e1, sn (by decide) e2, e3⟩
  · intro i hi
    rw [wrS_n] at hi
    rw [v 0 (by decide), wrS_9, wrS_10]
    by_cases c : (i : Int) = s 0 9
    · rw [if_pos c, if_pos c]; exact ⟨h1, h2⟩
    · rw [if_neg c, if_neg c]
      exact hp.2.2.1 i (by omega)
theorem CF.wr {s x y : XM} {v1 v2 : Int} {n : Nat} (h : CF s x) (hn : s 0 9 = (n : Int)) (hy : ∀ k, k ≠ 60 → k ≠ 61 → k ≠ 62 → y k = x k) (h60 : y 60 2 = s 0 9 + 1) (h61 : ∀ j, y 61 j = if j = n then v1 else x 61 j) (h62 : ∀ j, y 62 j = if j = n then v2 else x 62 j) : CF (wrS s v1 v2) y := by
  have v : ∀ j, j ≠ 9 → wrS s v1 v2 0 j = s 0 j := fun j hj => wrS_o (by decide) (by decide) (by omega)
  have o : ∀ {k j}, k ≠ 9 → k ≠ 10 → ¬ (k = 0 ∧ j = 9) → wrS s v1 v2 k j = s k j := fun h1 h2 h3 => wrS_o h1 h2 h3
  refine h.g (fun k hk => hy k (by omega) (by omega) (by omega)) ⟨fun kc hk => ?_, by rw [hy 10 (by decide) (by decide) (by decide)]; exact h.2.2.2.1, by rw [hy 10 (by decide) (by decide) (by decide)]; exact h.2.2.2.2⟩ (fun k j hk => o (by omega) (by omega) (by omega)) ?_ ?_ ?_ ?_ ?_ ?_ ?_ ?_ ?_ ?_ ?_
  · have := lay2' hk
    unfold CK
    rw [hy (kc + 1) (by omega) (by omega) (by omega), hy kc (by omega) (by omega) (by omega)]
    exact h.2.2.1 kc hk
  · rw [v 8 (by decide), hy 10 (by decide) (by decide) (by decide)]; exact h.e 0 8
  · rw [h60, wrS_n]
  · rw [v 10 (by decide), hy 63 (by decide) (by decide) (by decide)]; exact h.e 0 10
  · rw [v 11 (by decide), hy 75 (by decide) (by decide) (by decide)]; exact h.e 0 11
  · rw [v 12 (by decide), hy 79 (by decide) (by decide) (by decide)]; exact h.e 0 12
  · intro j; rw [o (by decide) (by decide) (by omega)]; exact cs5 h (fun k hk => hy k (by omega) (by omega) (by omega)) (hy _ (by decide) (by decide) (by decide)) (hy _ (by decide) (by decide) (by decide)) (hy _ (by decide) (by decide) (by decide)) j
  · intro j; rw [o (by decide) (by decide) (by omega)]; exact cs6 h (fun k hk => hy k (by omega) (by omega) (by omega)) (hy _ (by decide) (by decide) (by decide)) (fun k h1 h2 => hy _ (by omega) (by omega) (by omega)) j
  · intro j; rw [o (by decide) (by decide) (by omega)]; exact cs7 h (fun k hk => hy k (by omega) (by omega) (by omega)) (fun k h1 h2 => hy k (by omega) (by omega) (by omega)) j
  · intro j
    rw [cS_9, wrS_9, h60, h61, ← h.e 9 j, cS_9, show x 60 2 = s 0 9 from h.e 0 9]
    by_cases c : j = n
    · rw [if_pos c, if_pos (by omega), if_pos (by omega)]
    · rw [if_neg c, if_neg (show ¬ (j : Int) = s 0 9 by omega)]
      by_cases d : (j : Int) < s 0 9
      · rw [if_pos d, if_pos (by omega)]
      · rw [if_neg d, if_neg (by omega)]
  · intro j
    rw [cS_10, wrS_10, h60, h62, ← h.e 10 j, cS_10, show x 60 2 = s 0 9 from h.e 0 9]
    by_cases c : j = n
    · rw [if_pos c, if_pos (by omega), if_pos (by omega)]
    · rw [if_neg c, if_neg (show ¬ (j : Int) = s 0 9 by omega)]
      by_cases d : (j : Int) < s 0 9
      · rw [if_pos d, if_pos (by omega)]
      · rw [if_neg d, if_neg (by omega)]
  · intro j; rw [o (by decide) (by decide) (by omega)]; exact cs11 h (fun k h1 h2 => hy _ (by omega) (by omega) (by omega)) j
theorem RF.wr {s x y : XM} {v1 v2 : Int} {n : Nat} (h : RF s x) (hn : s 0 9 = (n : Int)) (hy : ∀ k, k ≠ 83 → k ≠ 101 → k ≠ 102 → y k = x k) (hf : ∀ j, j ≠ 38 → y 83 j = x 83 j) (h60 : y 83 38 = s 0 9 + 1) (h61 : ∀ j, y 101 j = if j = n then v1 else x 101 j) (h62 : ∀ j, y 102 j = if j = n then v2 else x 102 j) : RF (wrS s v1 v2) y := by
  have v : ∀ j, j ≠ 9 → wrS s v1 v2 0 j = s 0 j := fun j hj => wrS_o (by decide) (by decide) (by omega)
  have o : ∀ {k j}, k ≠ 9 → k ≠ 10 → ¬ (k = 0 ∧ j = 9) → wrS s v1 v2 k j = s k j := fun h1 h2 h3 => wrS_o h1 h2 h3
  refine h.g (fun k hk => hy k (by omega) (by omega) (by omega)) (fun j hj => hf j (by omega)) (fun k j hk => o (by omega) (by omega) (by omega)) ?_ ?_ ?_ ?_ ?_ ?_ ?_ ?_ ?_ ?_ ?_
  · rw [v 8 (by decide), hf 27 (by decide)]; exact h.e 0 8
  · rw [h60, wrS_n]
  · rw [v 10 (by decide), hf 31 (by decide)]; exact h.e 0 10
  · rw [v 11 (by decide), hy 97 (by decide) (by decide) (by decide)]; exact h.e 0 11
  · rw [v 12 (by decide), hy 97 (by decide) (by decide) (by decide)]; exact h.e 0 12
  · intro j; rw [o (by decide) (by decide) (by omega)]; exact rs5 h (fun j hj => hf j (by omega)) (hy _ (by decide) (by decide) (by decide)) j
  · intro j; rw [o (by decide) (by decide) (by omega)]; exact rs6 h (fun j hj => hf j (by omega)) (hf _ (by decide)) (hy _ (by decide) (by decide) (by decide)) j
  · intro j; rw [o (by decide) (by decide) (by omega)]; exact rs7 h (fun j hj => hf j (by omega)) (hy _ (by decide) (by decide) (by decide)) (hy _ (by decide) (by decide) (by decide)) j
  · intro j
    rw [rS_9, wrS_9, h60, h61, ← h.e 9 j, rS_9, show x 83 38 = s 0 9 from h.e 0 9]
    by_cases c : j = n
    · rw [if_pos c, if_pos (by omega), if_pos (by omega)]
    · rw [if_neg c, if_neg (show ¬ (j : Int) = s 0 9 by omega)]
      by_cases d : (j : Int) < s 0 9
      · rw [if_pos d, if_pos (by omega)]
      · rw [if_neg d, if_neg (by omega)]
  · intro j
    rw [rS_10, wrS_10, h60, h62, ← h.e 10 j, rS_10, show x 83 38 = s 0 9 from h.e 0 9]
    by_cases c : j = n
    · rw [if_pos c, if_pos (by omega), if_pos (by omega)]
    · rw [if_neg c, if_neg (show ¬ (j : Int) = s 0 9 by omega)]
      by_cases d : (j : Int) < s 0 9
      · rw [if_pos d, if_pos (by omega)]
      · rw [if_neg d, if_neg (by omega)]
  · intro j; rw [o (by decide) (by decide) (by omega)]; exact rs11 h (hy _ (by decide) (by decide) (by decide)) (hy _ (by decide) (by decide) (by decide)) j
def uWri (s : XM) (v1 v2 : Int) : Int × XM := if 0 ≤ v1 ∧ v1 < s 0 0 then (if -1 ≤ v2 ∧ v2 ≤ 5 then (if s 0 9 = 15 then (-1000000004, s) else (s 0 9 + 1, wrS s v1 v2)) else (-1000000002, s)) else (-1000000001, s)
theorem uX_at {x : XM} {k j b : Nat} {z : Int} : uX x k j z k b = if b = j then z else x k b := by
  unfold uX
  by_cases c : b = j
  · rw [if_pos ⟨rfl, c⟩, if_pos c]
  · rw [if_neg (fun e => c e.2), if_neg c]
theorem C_write {s x : XM} {v1 v2 : Int} {q : Int → XM → Prop} (h : CF s x) (k : Ok s) (hq : ∀ y : XM, CF (uWri s v1 v2).2 y → Ok (uWri s v1 v2).2 → Fr x y → q (uWri s v1 v2).1 y) : M_X10_write x v1 v2 q := by
  have h9 := k.i9
  have e9 : x 60 2 = s 0 9 := h.e 0 9
  unfold uWri at hq
  refine c_is1 h ?_
  unfold isN
  by_cases c1 : 0 ≤ v1 ∧ v1 < s 0 0
  · rw [if_pos c1] at hq ⊢
    have F : (-1 ≤ v2 ∧ v2 ≤ 5) → M_X10_write_27 q x v1 v2 := by
      intro c2
      rw [if_pos c2] at hq
      unfold M_X10_write_27
      rw [e9]
      refine ⟨fun c => ?_, fun c => by rw [if_pos (by omega)] at hq; exact hq x h k Fr.rf⟩
      rw [if_neg (by omega)] at hq
      obtain ⟨n, hn⟩ : ∃ n : Nat, s 0 9 = (n : Int) := ⟨(s 0 9).toNat, by omega⟩
      unfold M_X1_add
      rw [e9, hn, Int.toNat_natCast]
      refine ⟨by omega, fun x2 e2 => ?_⟩
      have f2 : x2 60 2 = (n : Int) := by rw [e2, uX_k (by decide), e9, hn]
      rw [f2, Int.toNat_natCast]
      refine ⟨by omega, fun x4 e4 => ?_⟩
      have f4 : x4 60 2 = (n : Int) := by rw [e4, uX_k (by decide), f2]
      rw [f4]
      refine ⟨rg1 (by omega), fun x6 e6 => ?_⟩
      have f6 : x6 60 2 = (n : Int) + 1 := by rw [e6, uX_eq]
      have := hq x6 (h.wr hn (fun k h1 h2 h3 => by rw [e6, uX_k h1, e4, uX_k h3, e2, uX_k h2]) (by rw [f6, hn]) (fun j => by rw [e6, uX_k (by decide), e4, uX_k (by decide), e2, uX_at]) (fun j => by rw [e6, uX_k (by decide), e4, uX_at, e2, uX_k (by decide)])) (k.wr (by omega) c1 c2) fun k hk => by rw [e6, uX_k (by omega), e4, uX_k (by omega), e2, uX_k (by omega)]
      show q (x6 60 2) x6
      rw [f6, ← hn]
      exact this
    refine jT (by decide) ⟨fun c => F (by omega), fun c => c_isHeap ?_⟩
    unfold isN
    by_cases c2 : 0 ≤ v2 ∧ v2 < 6
    · rw [if_pos c2]
      exact jT (by decide) (F (by omega))
    · rw [if_neg c2]
      rw [if_neg (by omega)] at hq
      exact jF rfl (hq x h k Fr.rf)
  · rw [if_neg c1] at hq ⊢
    exact jF rfl (hq x h k Fr.rf)
theorem R_write {s x : XM} {v1 v2 : Int} {q : Int → XM → Prop} (h : RF s x) (k : Ok s) (hq : ∀ y : XM, RF (uWri s v1 v2).2 y → Gr x y → q (uWri s v1 v2).1 y) : M_X11_write x v1 v2 q := by
  have h9 := k.i9
  have e9 : x 83 38 = s 0 9 := h.e 0 9
  unfold uWri at hq
  refine r_isButton h k ?_
  unfold isN
  by_cases c1 : 0 ≤ v1 ∧ v1 < s 0 0
  · rw [if_pos c1] at hq ⊢
    refine jT (by decide) (r_in ?_)
    by_cases c2 : -1 ≤ v2 ∧ v2 ≤ 5
    · rw [if_pos c2] at hq ⊢
      rw [e9]
      refine jT (by decide) ⟨fun c => ?_, fun c => by rw [if_pos c] at hq; exact hq x h Gr.rf⟩
      rw [if_neg c] at hq
      obtain ⟨n, hn⟩ : ∃ n : Nat, s 0 9 = (n : Int) := ⟨(s 0 9).toNat, by omega⟩
      rw [hn, Int.toNat_natCast]
      refine ⟨by omega, fun x2 e2 => ?_⟩
      have f2 : x2 83 38 = (n : Int) := by rw [e2, uX_k (by decide), e9, hn]
      rw [f2, Int.toNat_natCast]
      refine ⟨by omega, fun x4 e4 => ?_⟩
      have f4 : x4 83 38 = (n : Int) := by rw [e4, uX_k (by decide), f2]
      rw [f4]
      refine ⟨rg1 (by omega), fun x6 e6 => ?_⟩
      have f6 : x6 83 38 = (n : Int) + 1 := by rw [e6, uX_eq]
      have := hq x6 (h.wr hn (fun k h1 h2 h3 => by rw [e6, uX_k h1, e4, uX_k h3, e2, uX_k h2]) (fun j hj => by rw [e6, uX_j hj, e4, uX_k (by decide), e2, uX_k (by decide)]) (by rw [f6, hn]) (fun j => by rw [e6, uX_k (by decide), e4, uX_k (by decide), e2, uX_at]) (fun j => by rw [e6, uX_k (by decide), e4, uX_at, e2, uX_k (by decide)])) fun k hk => by rw [e6, uX_k (by omega), e4, uX_k (by omega), e2, uX_k (by omega)]
      rw [f6, ← hn]
      exact this
    · rw [if_neg c2] at hq ⊢
      exact jF rfl (hq x h Gr.rf)
  · rw [if_neg c1] at hq ⊢
    exact jF rfl (hq x h Gr.rf)
/-- torn -/
def teS (s : XM) : XM := fun k j => if k = 9 then 0 else if k = 10 then 0 else if k = 0 ∧ j = 9 then 0 else s k j
theorem teS_o {s : XM} {k j : Nat} (h9 : k ≠ 9) (h10 : k ≠ 10) (h0 : ¬ (k = 0 ∧ j = 9)) : teS s k j = s k j := by
  unfold teS
  rw [if_neg h9, if_neg h10, if_neg h0]
theorem Ok.te {s : XM} (k : Ok s) : Ok (teS s) := by
  have hr := k.r
  have hp := k.2.2.2
  have v : ∀ j, j ≠ 9 → teS s 0 j = s 0 j := fun j hj => teS_o (by decide) (by decide) (by omega)
  have sn : ∀ {kk o : Nat}, kk = 5 ∨ kk = 6 ∨ kk = 7 → SnOk s kk o → SnOk (teS s) kk o := fun hk h => h.cong (by omega) (v 0 (by decide)) (v 1 (by decide)) fun c hc => teS_o (by omega) (by omega) (by omega)
  refine k.g (fun k j hk => teS_o (by omega) (by omega) (by omega)) (by rw [v 8 (by decide)]; exact k.i8) (by show 0 ≤ (0 : Int) ∧ (0 : Int) ≤ 15; decide) (by rw [v 10 (by decide)]; exact k.sd) (sn (by decide) k.sn) ?_ ?_ ?_
  · intro i hi
    rw [v 8 (by decide)] at hi
    exact sn (by decide) (hp.1 i hi)
  · intro i hi
    rw [v (11 + i) (by omega), teS_o (k := 11) (by decide) (by decide) (by omega)]
    rcases hp.2.1 i hi with e | ⟨e1, e2, e3⟩
    · exact Or.inl e
    · exact Or.inr ⟨e1, sn (by decide) e2, e3⟩
  · intro i hi
    have hi : (i : Int) < 0 := hi
    omega
theorem CF.te {s x : XM} (h : CF s x) : CF (teS s) (uX x 60 2 0) := by
  have v : ∀ j, j ≠ 9 → teS s 0 j = s 0 j := fun j hj => teS_o (by decide) (by decide) (by omega)
  have o : ∀ {k j}, k ≠ 9 → k ≠ 10 → ¬ (k = 0 ∧ j = 9) → teS s k j = s k j := fun h1 h2 h3 => teS_o h1 h2 h3
  have u : ∀ k, k ≠ 60 → uX x 60 2 0 k = x k := fun k hk => uX_k hk
  refine h.g (fun k hk => u k (by omega)) ⟨fun kc hk => ?_, by rw [u 10 (by decide)]; exact h.2.2.2.1, by rw [u 10 (by decide)]; exact h.2.2.2.2⟩ (fun k j hk => o (by omega) (by omega) (by omega)) ?_ ?_ ?_ ?_ ?_ ?_ ?_ ?_ ?_ ?_ ?_
  · have := lay2' hk
    unfold CK
    rw [u (kc + 1) (by omega), u kc (by omega)]
    exact h.2.2.1 kc hk
  · rw [v 8 (by decide), u 10 (by decide)]; exact h.e 0 8
  · rw [uX_eq]; rfl
  · rw [v 10 (by decide), u 63 (by decide)]; exact h.e 0 10
  · rw [v 11 (by decide), u 75 (by decide)]; exact h.e 0 11
  · rw [v 12 (by decide), u 79 (by decide)]; exact h.e 0 12
  · intro j; rw [o (by decide) (by decide) (by omega)]; exact cs5 h (fun k hk => u k (by omega)) (u _ (by decide)) (u _ (by decide)) (u _ (by decide)) j
  · intro j; rw [o (by decide) (by decide) (by omega)]; exact cs6 h (fun k hk => u k (by omega)) (u _ (by decide)) (fun k h1 h2 => u _ (by omega)) j
  · intro j; rw [o (by decide) (by decide) (by omega)]; exact cs7 h (fun k hk => u k (by omega)) (fun k h1 h2 => u k (by omega)) j
  · intro j; rw [cS_9, uX_eq, if_neg (by omega)]; rfl
  · intro j; rw [cS_10, uX_eq, if_neg (by omega)]; rfl
  · intro j; rw [o (by decide) (by decide) (by omega)]; exact cs11 h (fun k h1 h2 => u _ (by omega)) j
theorem RF.te {s x : XM} (h : RF s x) : RF (teS s) (uX x 83 38 0) := by
  have v : ∀ j, j ≠ 9 → teS s 0 j = s 0 j := fun j hj => teS_o (by decide) (by decide) (by omega)
  have o : ∀ {k j}, k ≠ 9 → k ≠ 10 → ¬ (k = 0 ∧ j = 9) → teS s k j = s k j := fun h1 h2 h3 => teS_o h1 h2 h3
  have u : ∀ k, k ≠ 83 → uX x 83 38 0 k = x k := fun k hk => uX_k hk
  have w : ∀ j, j ≠ 38 → uX x 83 38 0 83 j = x 83 j := fun j hj => uX_j hj
  refine h.g (fun k hk => u k (by omega)) (fun j hj => w j (by omega)) (fun k j hk => o (by omega) (by omega) (by omega)) ?_ ?_ ?_ ?_ ?_ ?_ ?_ ?_ ?_ ?_ ?_
  · rw [v 8 (by decide), w 27 (by decide)]; exact h.e 0 8
  · rw [uX_eq]; rfl
  · rw [v 10 (by decide), w 31 (by decide)]; exact h.e 0 10
  · rw [v 11 (by decide), u 97 (by decide)]; exact h.e 0 11
  · rw [v 12 (by decide), u 97 (by decide)]; exact h.e 0 12
  · intro j; rw [o (by decide) (by decide) (by omega)]; exact rs5 h (fun j hj => w j (by omega)) (u _ (by decide)) j
  · intro j; rw [o (by decide) (by decide) (by omega)]; exact rs6 h (fun j hj => w j (by omega)) (w _ (by decide)) (u _ (by decide)) j
  · intro j; rw [o (by decide) (by decide) (by omega)]; exact rs7 h (fun j hj => w j (by omega)) (u _ (by decide)) (u _ (by decide)) j
  · intro j; rw [rS_9, uX_eq, if_neg (by omega)]; rfl
  · intro j; rw [rS_10, uX_eq, if_neg (by omega)]; rfl
  · intro j; rw [o (by decide) (by decide) (by omega)]; exact rs11 h (u _ (by decide)) (u _ (by decide)) j
theorem C_tear {s x : XM} {q : Int → XM → Prop} (h : CF s x) (k : Ok s) (hq : ∀ y : XM, CF (teS s) y → Ok (teS s) → Fr x y → q (s 0 9) y) : M_X10_tear x q := by
  intro y ey
  rw [show x 60 2 = s 0 9 from h.e 0 9, ey]
  exact hq _ h.te k.te fun k hk => uX_k (by omega)
theorem R_tear {s x : XM} {q : Int → XM → Prop} (h : RF s x) (hq : ∀ y : XM, RF (teS s) y → Gr x y → q (s 0 9) y) : M_X11_tear x q := by
  intro y ey
  rw [show x 83 38 = s 0 9 from h.e 0 9, ey]
  exact hq _ h.te fun k hk => uX_k (by omega)
def jdg (s : XM) : Nat → Nat → Int
  | 0, _ => -1
  | n + 1, i => if sHp s (s 9 i).toNat = s 10 i then jdg s n (i + 1) else i
theorem c_firstWrong_2 {s x : XM} {q : Int → Prop} (h : CF s x) (k : Ok s) (n : Nat) : ∀ i, i ≤ (s 0 9).toNat → (s 0 9).toNat < i + n → q (jdg s ((s 0 9).toNat - i) i) → M_X1_firstWrong_2 q x n (i : Int) := by
  have h9 := k.i9
  have hn := k.n
  induction n with
  | zero => intro i h1 h2; omega
  | succ n ih =>
    intro i h1 h2 hq
    unfold M_X1_firstWrong_2
    rw [show x 60 2 = s 0 9 from h.e 0 9, Int.toNat_natCast]
    refine ⟨fun c => ?_, fun c => ⟨⟨by omega, by omega⟩, ?_⟩⟩
    · rw [show (s 0 9).toNat - i = 0 by omega] at hq
      exact hq
    · rw [show (s 0 9).toNat - i = ((s 0 9).toNat - (i + 1)) + 1 by omega] at hq
      unfold jdg at hq
      have hb := h.bk (i := i) (by omega)
      have ho := k.2.2.2.2.2.1 i (by omega)
      rw [← hb.1, ← hb.2]
      obtain ⟨b, eb⟩ : ∃ b : Nat, s 9 i = (b : Int) := ⟨(s 9 i).toNat, by omega⟩
      rw [eb, Int.toNat_natCast] at hq
      rw [eb]
      refine c_heapOf h (by omega) ⟨⟨by omega, by omega⟩, ⟨fun d => ⟨rg1 (by omega), ih (i + 1) (by omega) (by omega) ?_⟩, fun d => ?_⟩⟩
      · rw [if_pos d] at hq
        exact hq
      · rw [if_neg d] at hq
        exact hq
theorem C_judge {s x : XM} {q : Int → Prop} (h : CF s x) (k : Ok s) (hq : q (jdg s (s 0 9).toNat 0)) : M_X10_judge x q := ⟨(s 0 9).toNat + 1, c_firstWrong_2 h k _ 0 (by omega) (by omega) hq⟩
theorem r_judge_2 {s x : XM} {q : Int → Prop} (h : RF s x) (k : Ok s) (n : Nat) : ∀ i, i ≤ (s 0 9).toNat → (s 0 9).toNat < i + n → q (jdg s ((s 0 9).toNat - i) i) → M_X11_judge_2 q x n (i : Int) := by
  have h9 := k.i9
  have hn := k.n
  induction n with
  | zero => intro i h1 h2; omega
  | succ n ih =>
    intro i h1 h2 hq
    unfold M_X11_judge_2
    rw [show x 83 38 = s 0 9 from h.e 0 9, Int.toNat_natCast]
    refine ⟨fun c => ?_, fun c => ⟨⟨by omega, by omega⟩, ?_⟩⟩
    · rw [show (s 0 9).toNat - i = 0 by omega] at hq
      exact hq
    · rw [show (s 0 9).toNat - i = ((s 0 9).toNat - (i + 1)) + 1 by omega] at hq
      unfold jdg at hq
      have hb := h.bk (i := i) (by omega)
      have ho := k.2.2.2.2.2.1 i (by omega)
      rw [← hb.1, ← hb.2]
      obtain ⟨b, eb⟩ : ∃ b : Nat, s 9 i = (b : Int) := ⟨(s 9 i).toNat, by omega⟩
      rw [eb, Int.toNat_natCast] at hq
      rw [eb]
      refine r_heapOf h (by omega) ⟨⟨by omega, by omega⟩, ⟨fun d => ⟨rg1 (by omega), ih (i + 1) (by omega) (by omega) ?_⟩, fun d => ?_⟩⟩
      · rw [if_pos d] at hq
        exact hq
      · rw [if_neg d] at hq
        exact hq
theorem R_judge {s x : XM} {q : Int → Prop} (h : RF s x) (k : Ok s) (hq : q (jdg s (s 0 9).toNat 0)) : M_X11_judge x q := ⟨(s 0 9).toNat + 1, r_judge_2 h k _ 0 (by omega) (by omega) hq⟩
