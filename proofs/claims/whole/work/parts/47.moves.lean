/-! ===== the moves of one button, of one rule ===== -/
theorem Ok.sn {s : XM} (k : Ok s) : SnOk s 5 0 := k.2.2.1
theorem kn_e {s : XM} {k j : Nat} (h1 : k ≠ 6) (h2 : k ≠ 0) : kn s k j = s k j := knoo h1 fun e => h2 e.1
theorem kn_05 {s : XM} {j : Nat} (h : j ≠ 8) : kn s 0 j = s 0 j := knoo (by decide) fun e => h e.2
/-- Ok hangs on the cells that it names -/
theorem Ok.knw {s : XM} (k : Ok s) : Ok (kn s) := by
  have hr := k.r
  obtain ⟨k1, k2, k3, k4, k5, k6, k7⟩ := k
  obtain ⟨a0, a1, a2, a3, a4, a5, a6, a7, a8, a9, a10⟩ := k1
  refine ⟨?_, ?_, ?_, ?_, ?_, ?_, ?_⟩
  · unfold OkN
    rw [kno8, kn_05 (j := 0) (by decide), kn_05 (j := 1) (by decide), kn_05 (j := 2) (by decide), kn_05 (j := 3) (by decide), kn_05 (j := 4) (by decide), kn_05 (j := 5) (by decide), kn_05 (j := 6) (by decide), kn_05 (j := 7) (by decide), kn_05 (j := 9) (by decide), kn_05 (j := 10) (by decide)]
    refine ⟨a0, a1, a2, a3, a4, a5, a6, a7, ?_, a9, a10⟩
    split <;> omega
  · unfold OkT MkOk RuOk
    rw [kn_05 (by decide), kn_05 (by decide), kn_05 (by decide), kn_05 (by decide)]
    exact k2
  · exact k3.cong (by omega) (kn_05 (by decide)) (kn_05 (by decide)) fun c hc => kn_e (by decide) (by decide)
  · intro i hi
    rw [kno8] at hi
    by_cases c : s 0 8 = 16
    · rw [if_pos c] at hi
      by_cases d : i < 15
      · refine (k4 (i + 1) (by omega)).cong (by omega) (kn_05 (by decide)) (kn_05 (by decide)) fun c' hc => ?_
        rw [kno6, if_pos c, if_pos (by omega), show 31 + (31 * i + c') = 31 * (i + 1) + c' by omega]
      · refine k3.cong (by omega) (kn_05 (by decide)) (kn_05 (by decide)) fun c' hc => ?_
        rw [kno6, if_pos c, if_neg (by omega), if_pos (by omega), show 31 * i + c' - 465 = 0 + c' by omega]
    · rw [if_neg c] at hi
      by_cases d : (i : Int) < s 0 8
      · refine (k4 i d).cong (by omega) (kn_05 (by decide)) (kn_05 (by decide)) fun c' hc => ?_
        rw [kno6, if_neg c, if_pos (by omega)]
      · refine k3.cong (by omega) (kn_05 (by decide)) (kn_05 (by decide)) fun c' hc => ?_
        rw [kno6, if_neg c, if_neg (by omega), if_pos (by omega), show 31 * i + c' - 31 * (s 0 8).toNat = 0 + c' by omega]
  · intro i hi
    rw [kn_05 (by omega)]
    rcases k5 i hi with e | ⟨e1, e2, e3⟩
    · exact Or.inl e
    · refine Or.inr ⟨e1, e2.cong (by omega) (kn_05 (by decide)) (kn_05 (by decide)) fun c hc => kn_e (by decide) (by decide), ?_⟩
      rw [kn_e (by decide) (by decide)]
      exact e3
  · intro i hi
    rw [kn_05 (by decide)] at hi ⊢
    rw [kn_e (by decide) (by decide), kn_e (by decide) (by decide)]
    exact k6 i hi
  · intro i hi
    rw [kn_05 (by decide)] at hi
    rw [kn_e (by decide) (by decide)]
    exact k7 i hi
/-- only the snapshot of now has changed -/
theorem Ok.now {s t : XM} (k : Ok s) (ht : ∀ k j, k ≠ 5 → t k j = s k j) (h5 : SnOk t 5 0) : Ok t := by
  have hr := k.r
  obtain ⟨k1, k2, k3, k4, k5, k6, k7⟩ := k
  have e0 : t 0 = s 0 := funext fun j => ht 0 j (by decide)
  have e1 : t 1 = s 1 := funext fun j => ht 1 j (by decide)
  have e2 : t 2 = s 2 := funext fun j => ht 2 j (by decide)
  have e3 : t 3 = s 3 := funext fun j => ht 3 j (by decide)
  have e4 : t 4 = s 4 := funext fun j => ht 4 j (by decide)
  have e6 : t 6 = s 6 := funext fun j => ht 6 j (by decide)
  have e7 : t 7 = s 7 := funext fun j => ht 7 j (by decide)
  have e8 : t 8 = s 8 := funext fun j => ht 8 j (by decide)
  have e9 : t 9 = s 9 := funext fun j => ht 9 j (by decide)
  have e10 : t 10 = s 10 := funext fun j => ht 10 j (by decide)
  have e11 : t 11 = s 11 := funext fun j => ht 11 j (by decide)
  refine ⟨?_, ?_, h5, ?_, ?_, ?_, ?_⟩
  · unfold OkN; rw [e0]; exact k1
  · unfold OkT MkOk RuOk; rw [e0, e1, e2, e3, e4]; exact k2
  · unfold OkP SnOk; rw [e0, e6]; exact k4
  · unfold OkI SnOk; rw [e0, e7, e11]; exact k5
  · unfold OkB; rw [e0, e9, e10]; exact k6
  · unfold OkX; rw [e0, e8]; exact k7
theorem Ok.set {s : XM} {b : Nat} {z : Int} (k : Ok s) (hb : b < nB s) (hz : 0 ≤ z ∧ z ≤ 12) (h8 : 8 ≤ z → ∀ c, c < 12 → c ≠ b → s 5 c ≠ z) : Ok (uX s 5 b z) := by
  have hn := k.n
  refine k.now (fun k j hk => uX_ne fun e => hk e.1) ?_
  obtain ⟨a1, a2, a3, a4, a5, a6, a7, a8, a9⟩ := k.sn
  rw [Nat.zero_add] at a9
  simp only [Nat.zero_add] at a1 a2 a3 a4 a5 a6 a7 a8
  refine ⟨?_, ?_, ?_, ?_, ?_, ?_, ?_, ?_, ?_⟩
  all_goals simp only [Nat.zero_add]
  · intro c hc
    by_cases e : c = b
    · rw [e, uX_eq]; exact hz
    · rw [uX_j e]; exact a1 c hc
  · intro c hc h0
    rw [uX_ne (by omega)] at h0
    rw [uX_j (by omega)]
    exact a2 c hc h0
  · intro c d hc hd h1 h2
    by_cases e : c = b
    · by_cases f : d = b
      · omega
      · rw [e, uX_eq] at h1 h2
        rw [uX_j f] at h2
        exact absurd h2.symm (h8 h1 d hd f)
    · rw [uX_j e] at h1 h2
      by_cases f : d = b
      · rw [f, uX_eq] at h2
        exact absurd h2 (h8 (by omega) c hc e)
      · rw [uX_j f] at h2
        exact a3 c d hc hd h1 h2
  · intro c hc
    rw [uX_j (by omega)]
    exact a4 c hc
  · intro c hc h0
    rw [uX_ne (by omega)] at h0
    rw [uX_j (by omega)]
    exact a5 c hc h0
  · intro p hp
    rw [uX_j (by omega)]
    exact a6 p hp
  · intro p hp
    rw [uX_ne (by omega)] at hp ⊢
    rw [uX_ne (by omega)]
    exact a7 p hp
  · intro p p' hp hp' e
    rw [uX_ne (by omega)] at hp hp'
    rw [uX_j (by omega), uX_j (by omega)] at e
    exact a8 p p' hp hp' e
  · rw [uX_j (by omega)]
    exact a9
theorem Ok.setB {s : XM} {b : Nat} {z : Int} (k : Ok s) (hb : b < nB s) (hz : z = 0 ∨ z = 1) : Ok (uX s 5 (12 + b) z) := by
  have hn := k.n
  refine k.now (fun k j hk => uX_ne fun e => hk e.1) ?_
  obtain ⟨a1, a2, a3, a4, a5, a6, a7, a8, a9⟩ := k.sn
  rw [Nat.zero_add] at a9
  simp only [Nat.zero_add] at a1 a2 a3 a4 a5 a6 a7 a8
  refine ⟨?_, ?_, ?_, ?_, ?_, ?_, ?_, ?_, ?_⟩
  all_goals simp only [Nat.zero_add]
  · intro c hc
    rw [uX_j (by omega)]
    exact a1 c hc
  · intro c hc h0
    rw [uX_ne (by omega)] at h0
    rw [uX_j (by omega)]
    exact a2 c hc h0
  · intro c d hc hd
    rw [uX_j (by omega), uX_j (by omega)]
    exact a3 c d hc hd
  · intro c hc
    by_cases e : c = b
    · rw [e, uX_eq]; exact hz
    · rw [uX_j (by omega)]; exact a4 c hc
  · intro c hc h0
    rw [uX_ne (by omega)] at h0
    rw [uX_j (by omega)]
    exact a5 c hc h0
  · intro p hp
    rw [uX_j (by omega)]
    exact a6 p hp
  · intro p hp
    rw [uX_ne (by omega)] at hp ⊢
    rw [uX_ne (by omega)]
    exact a7 p hp
  · intro p p' hp hp' e
    rw [uX_ne (by omega)] at hp hp'
    rw [uX_j (by omega), uX_j (by omega)] at e
    exact a8 p p' hp hp' e
  · rw [uX_j (by omega)]
    exact a9
theorem nB_kn {s : XM} : nB (kn s) = nB s := by unfold nB; rw [kn_05 (by decide)]
theorem nR_kn {s : XM} : nR (kn s) = nR s := by unfold nR; rw [kn_05 (by decide)]
theorem nN_kn {s : XM} : nN (kn s) = nN s := by unfold nN; rw [kn_05 (by decide)]
theorem nB_u5 {s : XM} {j : Nat} {z : Int} : nB (uX s 5 j z) = nB s := by unfold nB; rw [uX_k (by decide)]
theorem nR_u5 {s : XM} {j : Nat} {z : Int} : nR (uX s 5 j z) = nR s := by unfold nR; rw [uX_k (by decide)]
theorem kno5 {s : XM} : kn s 5 = s 5 := funext fun j => kn_e (by decide) (by decide)
/-- what a state change gives: an answer and a state -/
theorem CF.un {s x y : XM} (h : CF s x) (e : ∀ k, k < 83 → y k = x k) : CF s y := h.keep e
def uPut (s : XM) (v1 v2 : Int) : Int × XM :=
  if 0 ≤ v1 ∧ v1 < s 0 0 then (if 0 ≤ v2 ∧ v2 < 6 then (if 8 ≤ s 5 v1.toNat then (-1000000003, s) else if s 5 v1.toNat = 1 + v2 then (-1000000003, s) else (((sSt (uX (kn s) 5 v1.toNat (1 + v2)) (1 + v2) : Nat) : Int), uX (kn s) 5 v1.toNat (1 + v2))) else (-1000000002, s)) else (-1000000001, s)
theorem enc_h {v : Int} (h : 0 ≤ v ∧ v < 6) : enc v = 1 + v := by unfold enc; rw [if_neg (by omega), if_pos (by omega)]; omega
theorem enc_6 : enc 6 = 0 := rfl
theorem enc_8 {v : Int} (h : 7 ≤ v) : enc v = v := by unfold enc; rw [if_neg (by omega), if_neg (by omega)]
/-- the class's place against the state's -/
theorem CF.iff {s x : XM} (h : CF s x) {b : Nat} {v : Int} (hb : b < 12 ∧ (0 < s 0 0 ∨ 0 < s 0 1)) (hv : 0 ≤ v ∧ v ≤ 12) : x 5 b = v ↔ s 5 b = enc v := by
  obtain ⟨h1, h2⟩ := h.pl hb
  rw [h1]
  exact ⟨fun e => by rw [e], fun e => enc_inj h2 hv e⟩
def Fr (x y : XM) : Prop := ∀ k, 83 ≤ k → y k = x k
def Gr (x y : XM) : Prop := ∀ k, k < 83 → y k = x k
theorem C_put {s x : XM} {v1 v2 : Int} {q : Int → XM → Prop} (h : CF s x) (k : Ok s) (hq : ∀ y : XM, CF (uPut s v1 v2).2 y → Ok (uPut s v1 v2).2 → Fr x y → q (uPut s v1 v2).1 y) : M_X10_put x v1 v2 q := by
  have kn0 : kn s 0 0 = s 0 0 := kn_05 (by decide)
  have kn1 : kn s 0 1 = s 0 1 := kn_05 (by decide)
  have ku0 : ∀ j z, uX (kn s) 5 j z 0 0 = s 0 0 := fun j z => by rw [uX_k (by decide)]; exact kn0
  have ku1 : ∀ j z, uX (kn s) 5 j z 0 1 = s 0 1 := fun j z => by rw [uX_k (by decide)]; exact kn1
  have hn := k.n
  unfold uPut at hq
  refine c_is1 h ?_
  unfold isN
  by_cases c1 : 0 ≤ v1 ∧ v1 < s 0 0
  · rw [if_pos c1] at hq ⊢
    obtain ⟨b, rfl⟩ : ∃ b : Nat, v1 = b := ⟨v1.toNat, by omega⟩
    rw [Int.toNat_natCast] at hq
    refine jT (by decide) (c_isHeap ?_)
    unfold isN
    by_cases c2 : 0 ≤ v2 ∧ v2 < 6
    · rw [if_pos c2] at hq ⊢
      refine jT (by decide) (c_isSewn h (by omega) ?_)
      by_cases c3 : 8 ≤ s 5 b
      · rw [if_pos c3] at hq
        rw [if_neg (by omega)]
        exact jT (by decide) (hq x h k fun _ _ => rfl)
      · rw [if_neg c3] at hq
        rw [if_pos (by omega)]
        refine jF rfl ⟨⟨by omega, by omega⟩, ?_⟩
        rw [Int.toNat_natCast]
        have hi := h.iff (b := b) (v := v2) (by omega) ⟨by omega, by omega⟩
        rw [enc_h c2] at hi
        by_cases c4 : s 5 b = 1 + v2
        · rw [if_pos c4] at hq
          exact jF (hi.2 c4) (hq x h k fun _ _ => rfl)
        · rw [if_neg c4] at hq
          refine jT (fun e => c4 (hi.1 e)) (C_remember h k fun y hy fy => ⟨⟨by omega, by omega⟩, fun z ez => ?_⟩)
          have hz : CF (uX (kn s) 5 b (1 + v2)) z := by
            rw [ez, ← enc_h c2]
            exact hy.set (by omega) ⟨by omega, by omega⟩
          have kz : Ok (uX (kn s) 5 b (1 + v2)) := k.knw.set (by rw [nB_kn]; omega) ⟨by omega, by omega⟩ (by omega)
          refine c_at hz kz ⟨by omega, by omega⟩ ?_
          rw [enc_h c2]
          exact hq z hz kz fun k hk => by rw [ez, uX_k (by omega), fy k (by omega)]
    · rw [if_neg c2] at hq ⊢
      exact jF rfl (hq x h k fun _ _ => rfl)
  · rw [if_neg c1] at hq ⊢
    exact jF rfl (hq x h k fun _ _ => rfl)
theorem R_put {s x : XM} {v1 v2 : Int} {q : Int → XM → Prop} (h : RF s x) (k : Ok s) (hq : ∀ y : XM, RF (uPut s v1 v2).2 y → Gr x y → q (uPut s v1 v2).1 y) : M_X11_put x v1 v2 q := by
  have kn0 : kn s 0 0 = s 0 0 := kn_05 (by decide)
  have kn1 : kn s 0 1 = s 0 1 := kn_05 (by decide)
  have ku0 : ∀ j z, uX (kn s) 5 j z 0 0 = s 0 0 := fun j z => by rw [uX_k (by decide)]; exact kn0
  have ku1 : ∀ j z, uX (kn s) 5 j z 0 1 = s 0 1 := fun j z => by rw [uX_k (by decide)]; exact kn1
  have hn := k.n
  unfold uPut at hq
  refine r_isButton h k ?_
  unfold isN
  by_cases c1 : 0 ≤ v1 ∧ v1 < s 0 0
  · rw [if_pos c1] at hq ⊢
    obtain ⟨b, rfl⟩ : ∃ b : Nat, v1 = b := ⟨v1.toNat, by omega⟩
    rw [Int.toNat_natCast] at hq
    refine jT (by decide) (r_isHeap ?_)
    unfold isN
    by_cases c2 : 0 ≤ v2 ∧ v2 < 6
    · rw [if_pos c2] at hq ⊢
      refine jT (by decide) ⟨⟨by omega, by omega⟩, ?_⟩
      rw [Int.toNat_natCast, h.nw (by omega)]
      by_cases c3 : 8 ≤ s 5 b
      · rw [if_pos c3] at hq
        exact iT c3 (hq x h fun _ _ => rfl)
      · rw [if_neg c3] at hq
        refine iF c3 ⟨⟨by omega, by omega⟩, ⟨by omega, by omega⟩, ?_⟩
        by_cases c4 : s 5 b = 1 + v2
        · rw [if_pos c4] at hq
          exact jF c4 (hq x h fun _ _ => rfl)
        · rw [if_neg c4] at hq
          refine jT c4 (R_know h k fun y hy fy _ => ⟨⟨by omega, by omega⟩, ⟨by omega, by omega⟩, fun z ez => ⟨⟨by omega, by omega⟩, ?_⟩⟩)
          have hz : RF (uX (kn s) 5 b (1 + v2)) z := by
            rw [ez]
            exact hy.set (by omega)
          have kz : Ok (uX (kn s) 5 b (1 + v2)) := k.knw.set (by rw [nB_kn]; omega) ⟨by omega, by omega⟩ (by omega)
          refine r_setIn hz kz ?_
          exact hq z hz fun k hk => by rw [ez, uX_k (by omega), fy k (by omega) (by omega)]
    · rw [if_neg c2] at hq ⊢
      exact jF rfl (hq x h fun _ _ => rfl)
  · rw [if_neg c1] at hq ⊢
    exact jF rfl (hq x h fun _ _ => rfl)

def uTak (s : XM) (v1 : Int) : Int × XM :=
  if 0 ≤ v1 ∧ v1 < s 0 0 then (if 8 ≤ s 5 v1.toNat then (-1000000003, s) else if s 5 v1.toNat = 0 then (-1000000003, s) else (((sSt (uX (kn s) 5 v1.toNat 0) 0 : Nat) : Int), uX (kn s) 5 v1.toNat 0)) else (-1000000001, s)
theorem C_takeBack {s x : XM} {v1 : Int} {q : Int → XM → Prop} (h : CF s x) (k : Ok s) (hq : ∀ y : XM, CF (uTak s v1).2 y → Ok (uTak s v1).2 → Fr x y → q (uTak s v1).1 y) : M_X10_takeBack x v1 q := by
  have kn0 : kn s 0 0 = s 0 0 := kn_05 (by decide)
  have kn1 : kn s 0 1 = s 0 1 := kn_05 (by decide)
  have ku0 : ∀ j z, uX (kn s) 5 j z 0 0 = s 0 0 := fun j z => by rw [uX_k (by decide)]; exact kn0
  have ku1 : ∀ j z, uX (kn s) 5 j z 0 1 = s 0 1 := fun j z => by rw [uX_k (by decide)]; exact kn1
  have hn := k.n
  unfold uTak at hq
  refine c_is1 h ?_
  unfold isN
  by_cases c1 : 0 ≤ v1 ∧ v1 < s 0 0
  · rw [if_pos c1] at hq ⊢
    obtain ⟨b, rfl⟩ : ∃ b : Nat, v1 = b := ⟨v1.toNat, by omega⟩
    rw [Int.toNat_natCast] at hq
    refine jT (by decide) (c_isSewn h (by omega) ?_)
    by_cases c3 : 8 ≤ s 5 b
    · rw [if_pos c3] at hq
      rw [if_neg (by omega)]
      exact jT (by decide) (hq x h k fun _ _ => rfl)
    · rw [if_neg c3] at hq
      rw [if_pos (by omega)]
      refine jF rfl ⟨⟨by omega, by omega⟩, ?_⟩
      rw [Int.toNat_natCast]
      have hi := h.iff (b := b) (v := 6) (by omega) ⟨by omega, by omega⟩
      rw [enc_6] at hi
      by_cases c4 : s 5 b = 0
      · rw [if_pos c4] at hq
        exact jF (hi.2 c4) (hq x h k fun _ _ => rfl)
      · rw [if_neg c4] at hq
        refine jT (fun e => c4 (hi.1 e)) (C_remember h k fun y hy fy => ⟨⟨by omega, by omega⟩, fun z ez => ?_⟩)
        have hz : CF (uX (kn s) 5 b 0) z := by
          rw [ez, ← enc_6]
          exact hy.set (by omega) ⟨by omega, by omega⟩
        have kz : Ok (uX (kn s) 5 b 0) := k.knw.set (by rw [nB_kn]; omega) ⟨by omega, by omega⟩ (by omega)
        refine c_at hz kz ⟨by omega, by omega⟩ ?_
        exact hq z hz kz fun k hk => by rw [ez, uX_k (by omega), fy k (by omega)]
  · rw [if_neg c1] at hq ⊢
    exact jF rfl (hq x h k fun _ _ => rfl)
theorem R_takeBack {s x : XM} {v1 : Int} {q : Int → XM → Prop} (h : RF s x) (k : Ok s) (hq : ∀ y : XM, RF (uTak s v1).2 y → Gr x y → q (uTak s v1).1 y) : M_X11_takeBack x v1 q := by
  have kn0 : kn s 0 0 = s 0 0 := kn_05 (by decide)
  have kn1 : kn s 0 1 = s 0 1 := kn_05 (by decide)
  have ku0 : ∀ j z, uX (kn s) 5 j z 0 0 = s 0 0 := fun j z => by rw [uX_k (by decide)]; exact kn0
  have ku1 : ∀ j z, uX (kn s) 5 j z 0 1 = s 0 1 := fun j z => by rw [uX_k (by decide)]; exact kn1
  have hn := k.n
  unfold uTak at hq
  refine r_isButton h k ?_
  unfold isN
  by_cases c1 : 0 ≤ v1 ∧ v1 < s 0 0
  · rw [if_pos c1] at hq ⊢
    obtain ⟨b, rfl⟩ : ∃ b : Nat, v1 = b := ⟨v1.toNat, by omega⟩
    rw [Int.toNat_natCast] at hq
    refine jT (by decide) ⟨⟨by omega, by omega⟩, ?_⟩
    rw [Int.toNat_natCast, h.nw (by omega)]
    by_cases c3 : 8 ≤ s 5 b
    · rw [if_pos c3] at hq
      exact iT c3 (hq x h fun _ _ => rfl)
    · rw [if_neg c3] at hq
      refine iF c3 ⟨⟨by omega, by omega⟩, ?_⟩
      by_cases c4 : s 5 b = 0
      · rw [if_pos c4] at hq
        exact jF c4 (hq x h fun _ _ => rfl)
      · rw [if_neg c4] at hq
        refine jT c4 (R_know h k fun y hy fy _ => ⟨⟨by omega, by omega⟩, fun z ez => ?_⟩)
        have hz : RF (uX (kn s) 5 b 0) z := by
          rw [ez]
          exact hy.set (by omega)
        have kz : Ok (uX (kn s) 5 b 0) := k.knw.set (by rw [nB_kn]; omega) ⟨by omega, by omega⟩ (by omega)
        exact r_setIn hz kz (hq z hz fun k hk => by rw [ez, uX_k (by omega), fy k (by omega) (by omega)])
  · rw [if_neg c1] at hq ⊢
    exact jF rfl (hq x h fun _ _ => rfl)
def uSew (s : XM) (v1 v2 : Int) : Int × XM :=
  if 0 ≤ v1 ∧ v1 < s 0 0 then (if 0 ≤ v2 ∧ v2 < s 0 3 then (if 8 ≤ s 5 v1.toNat then (-1000000003, s) else if sSw s (8 + v2) = -1 then (if s 4 v2.toNat ≤ sHo s v1.toNat then (sHo (uX (kn s) 5 v1.toNat (8 + v2)) v1.toNat, uX (kn s) 5 v1.toNat (8 + v2)) else (-1000000003, s)) else (-1000000003, s)) else (-1000000001, s)) else (-1000000001, s)
theorem lstI_m1 {p : Nat → Bool} : ∀ n, lstI p n = -1 → ∀ b, b < n → p b = false
  | 0, _, b, hb => by omega
  | n + 1, h, b, hb => by
    unfold lstI at h
    by_cases e : p n = true
    · rw [if_pos e] at h
      omega
    · rw [if_neg e] at h
      by_cases c : b = n
      · rw [c]; exact Bool.eq_false_iff.2 e
      · exact lstI_m1 n h b (by omega)
theorem lstI_ge {p : Nat → Bool} : ∀ n, lstI p n = -1 ∨ ∃ b : Nat, lstI p n = (b : Int) ∧ b < n ∧ p b = true
  | 0 => Or.inl rfl
  | n + 1 => by
    unfold lstI
    by_cases e : p n = true
    · rw [if_pos e]
      exact Or.inr ⟨n, rfl, by omega, e⟩
    · rw [if_neg e]
      rcases lstI_ge n (p := p) with c | ⟨b, c1, c2, c3⟩
      · exact Or.inl c
      · exact Or.inr ⟨b, c1, by omega, c3⟩
theorem sSw_no {s : XM} (k : Ok s) {c : Int} (hc : 8 ≤ c) (h : sSw s c = -1) : ∀ b, b < 12 → s 5 b ≠ c := by
  intro b hb e
  have hn := k.n
  by_cases d : b < nB s
  · have := lstI_m1 _ h b d
    simp [e] at this
  · have := k.sn.2.1 b hb (by omega)
    rw [Nat.zero_add] at this
    omega
theorem Ok.sewn {s : XM} (k : Ok s) {b : Nat} {v : Int} (hb : b < nB s) (hv : 0 ≤ v ∧ v < s 0 3) (h : sSw s (8 + v) = -1) : Ok (uX (kn s) 5 b (8 + v)) := by
  have hw := k.w
  refine k.knw.set (by rw [nB_kn]; exact hb) ⟨by omega, by omega⟩ fun _ c hc _ => ?_
  rw [kno5]
  exact sSw_no k (by omega) h c hc
theorem C_sew {s x : XM} {v1 v2 : Int} {q : Int → XM → Prop} (h : CF s x) (k : Ok s) (hq : ∀ y : XM, CF (uSew s v1 v2).2 y → Ok (uSew s v1 v2).2 → Fr x y → q (uSew s v1 v2).1 y) : M_X10_sew x v1 v2 q := by
  have kn0 : kn s 0 0 = s 0 0 := kn_05 (by decide)
  have kn1 : kn s 0 1 = s 0 1 := kn_05 (by decide)
  have ku0 : ∀ j z, uX (kn s) 5 j z 0 0 = s 0 0 := fun j z => by rw [uX_k (by decide)]; exact kn0
  have ku1 : ∀ j z, uX (kn s) 5 j z 0 1 = s 0 1 := fun j z => by rw [uX_k (by decide)]; exact kn1
  have hn := k.n
  have hw := k.w
  unfold uSew at hq
  refine c_is1 h ?_
  unfold isN
  by_cases c1 : 0 ≤ v1 ∧ v1 < s 0 0
  · rw [if_pos c1] at hq ⊢
    obtain ⟨b, rfl⟩ : ∃ b : Nat, v1 = b := ⟨v1.toNat, by omega⟩
    rw [Int.toNat_natCast] at hq
    refine iF (by decide) (c_is4 h ?_)
    unfold isN
    by_cases c2 : 0 ≤ v2 ∧ v2 < s 0 3
    · rw [if_pos c2] at hq ⊢
      refine jT (by decide) (c_isSewn h (by omega) ?_)
      by_cases c3 : 8 ≤ s 5 b
      · rw [if_pos c3] at hq
        rw [if_neg (by omega)]
        exact jT (by decide) (hq x h k fun _ _ => rfl)
      · rw [if_neg c3] at hq
        rw [if_pos (by omega)]
        refine jF rfl (c_sewnTo h k ⟨by omega, by omega⟩ ?_)
        by_cases c4 : sSw s (8 + v2) = -1
        · rw [if_pos c4] at hq
          refine jF c4 (c_holds h k (by omega) ?_)
          obtain ⟨n, rfl⟩ : ∃ n : Nat, v2 = n := ⟨v2.toNat, by omega⟩
          rw [Int.toNat_natCast] at hq
          refine c_val4 h k (by omega) ?_
          by_cases c5 : s 4 n ≤ sHo s b
          · rw [if_pos c5] at hq
            refine iT c5 (C_remember h k fun y hy fy => ⟨⟨by omega, by omega⟩, ⟨by omega, by omega⟩, fun z ez => ?_⟩)
            have hz : CF (uX (kn s) 5 b (8 + (n : Int))) z := by
              have := hy.set (b := b) (z := 8 + (n : Int)) (by omega) ⟨by omega, by omega⟩
              rw [enc_8 (by omega)] at this
              rw [ez]
              exact this
            have kz : Ok (uX (kn s) 5 b (8 + (n : Int))) := k.sewn (by omega) c2 c4
            refine c_holds hz kz (by rw [nB_u5, nB_kn]; omega) ?_
            exact hq z hz kz fun k hk => by rw [ez, uX_k (by omega), fy k (by omega)]
          · rw [if_neg c5] at hq
            exact iF c5 (hq x h k fun _ _ => rfl)
        · rw [if_neg c4] at hq
          exact jT c4 (hq x h k fun _ _ => rfl)
    · rw [if_neg c2] at hq ⊢
      exact jF rfl (hq x h k fun _ _ => rfl)
  · rw [if_neg c1] at hq ⊢
    exact iT rfl (hq x h k fun _ _ => rfl)
theorem R_sew {s x : XM} {v1 v2 : Int} {q : Int → XM → Prop} (h : RF s x) (k : Ok s) (hq : ∀ y : XM, RF (uSew s v1 v2).2 y → Gr x y → q (uSew s v1 v2).1 y) : M_X11_sew x v1 v2 q := by
  have kn0 : kn s 0 0 = s 0 0 := kn_05 (by decide)
  have kn1 : kn s 0 1 = s 0 1 := kn_05 (by decide)
  have ku0 : ∀ j z, uX (kn s) 5 j z 0 0 = s 0 0 := fun j z => by rw [uX_k (by decide)]; exact kn0
  have ku1 : ∀ j z, uX (kn s) 5 j z 0 1 = s 0 1 := fun j z => by rw [uX_k (by decide)]; exact kn1
  have hn := k.n
  have hw := k.w
  unfold uSew at hq
  refine r_isButton h k ?_
  unfold isN
  by_cases c1 : 0 ≤ v1 ∧ v1 < s 0 0
  · rw [if_pos c1] at hq ⊢
    obtain ⟨b, rfl⟩ : ∃ b : Nat, v1 = b := ⟨v1.toNat, by omega⟩
    rw [Int.toNat_natCast] at hq
    refine iF (by decide) (r_isNeed h k ?_)
    unfold isN
    by_cases c2 : 0 ≤ v2 ∧ v2 < s 0 3
    · rw [if_pos c2] at hq ⊢
      refine jT (by decide) ⟨⟨by omega, by omega⟩, ?_⟩
      rw [Int.toNat_natCast, h.nw (by omega)]
      by_cases c3 : 8 ≤ s 5 b
      · rw [if_pos c3] at hq
        exact iT c3 (hq x h fun _ _ => rfl)
      · rw [if_neg c3] at hq
        refine iF c3 (r_sewnTo h k ⟨by omega, by omega⟩ ?_)
        by_cases c4 : sSw s (8 + v2) = -1
        · rw [if_pos c4] at hq
          refine jF c4 (r_holds h k (by omega) ?_)
          obtain ⟨n, rfl⟩ : ∃ n : Nat, v2 = n := ⟨v2.toNat, by omega⟩
          refine ⟨⟨by omega, by omega⟩, ?_⟩
          rw [Int.toNat_natCast] at hq ⊢
          rw [h.ne (by omega)]
          by_cases c5 : s 4 n ≤ sHo s b
          · rw [if_pos c5] at hq
            refine iT c5 (R_know h k fun y hy fy _ => ⟨⟨by omega, by omega⟩, ⟨by omega, by omega⟩, fun z ez => ?_⟩)
            have hz : RF (uX (kn s) 5 b (8 + (n : Int))) z := by
              rw [ez]
              exact hy.set (by omega)
            have kz : Ok (uX (kn s) 5 b (8 + (n : Int))) := k.sewn (by omega) c2 c4
            refine r_holds hz kz (by rw [nB_u5, nB_kn]; omega) ?_
            exact hq z hz fun k hk => by rw [ez, uX_k (by omega), fy k (by omega) (by omega)]
          · rw [if_neg c5] at hq
            exact iF c5 (hq x h fun _ _ => rfl)
        · rw [if_neg c4] at hq
          exact jT c4 (hq x h fun _ _ => rfl)
    · rw [if_neg c2] at hq ⊢
      exact jF rfl (hq x h fun _ _ => rfl)
  · rw [if_neg c1] at hq ⊢
    exact iT rfl (hq x h fun _ _ => rfl)
def uUnp (s : XM) (v1 : Int) : Int × XM :=
  if 0 ≤ v1 ∧ v1 < s 0 3 then (if sSw s (8 + v1) = -1 then (-1000000003, s) else (sSw s (8 + v1), uX (uX (kn s) 5 (sSw s (8 + v1)).toNat 0) 5 (12 + (sSw s (8 + v1)).toNat) 1)) else (-1000000001, s)
theorem CF.bent {s x : XM} (h : CF s x) : 0 ≤ x 4 2 ∧ x 4 2 < 4096 := (h.2.2.1 4 (by decide)).2
theorem CF.on {s x : XM} {b : Nat} (h : CF s x) (hb : b < 12 ∧ (0 < s 0 0 ∨ 0 < s 0 1)) : CF (uX s 5 (12 + b) 1) (uX x 4 2 (jor (x 4 2) (jshl 1 (b : Int)))) := by
  have hx := h.bent
  have hp : 2 ^ b < 2 ^ 12 := Nat.pow_lt_pow_right (by decide) hb.1
  rw [show x 4 2 = ((x 4 2).toNat : Int) by omega, jshl_1 b (by omega), jor_n (by omega) (by omega)]
  refine h.setB (f := true) hb (Nat.or_lt_two_pow (n := 12) (by omega) (by omega)) ?_ fun c hc hcb => ?_
  · rw [Nat.testBit_or, Nat.testBit_two_pow]; simp
  · rw [Nat.testBit_or, Nat.testBit_two_pow, show decide (b = c) = false by simp; omega, Bool.or_false]
theorem CF.off {s x : XM} {b : Nat} (h : CF s x) (hb : b < 12 ∧ (0 < s 0 0 ∨ 0 < s 0 1)) : CF (uX s 5 (12 + b) 0) (uX x 4 2 (jand (x 4 2) (jxor (jshl 1 (b : Int)) (-1)))) := by
  have hx := h.bent
  have hp : 2 ^ b < 2 ^ 12 := Nat.pow_lt_pow_right (by decide) hb.1
  rw [show x 4 2 = ((x 4 2).toNat : Int) by omega, jshl_1 b (by omega), jdiff_n (by omega)]
  refine h.setB (f := false) hb (ndiff_lt (k := 12) (by omega)) ?_ fun c hc hcb => ?_
  · rw [ndiff_bit, Nat.testBit_two_pow]; simp
  · rw [ndiff_bit, Nat.testBit_two_pow, show decide (b = c) = false by simp; omega, Bool.not_false, Bool.and_true]
theorem C_unpick {s x : XM} {v1 : Int} {q : Int → XM → Prop} (h : CF s x) (k : Ok s) (hq : ∀ y : XM, CF (uUnp s v1).2 y → Ok (uUnp s v1).2 → Fr x y → q (uUnp s v1).1 y) : M_X10_unpick x v1 q := by
  have kn0 : kn s 0 0 = s 0 0 := kn_05 (by decide)
  have kn1 : kn s 0 1 = s 0 1 := kn_05 (by decide)
  have ku0 : ∀ j z, uX (kn s) 5 j z 0 0 = s 0 0 := fun j z => by rw [uX_k (by decide)]; exact kn0
  have ku1 : ∀ j z, uX (kn s) 5 j z 0 1 = s 0 1 := fun j z => by rw [uX_k (by decide)]; exact kn1
  have hn := k.n
  have hw := k.w
  unfold uUnp at hq
  refine c_is4 h ?_
  unfold isN
  by_cases c1 : 0 ≤ v1 ∧ v1 < s 0 3
  · rw [if_pos c1] at hq ⊢
    refine jT (by decide) (c_sewnTo h k ⟨by omega, by omega⟩ ?_)
    rcases lstI_ge (nB s) (p := fun b => decide (s 5 b = 8 + v1)) with c | ⟨b, c2, c3, c4⟩
    · have c : sSw s (8 + v1) = -1 := c
      rw [if_pos c] at hq
      exact jF c (hq x h k fun _ _ => rfl)
    · have c2 : sSw s (8 + v1) = (b : Int) := c2
      rw [c2, if_neg (by omega), Int.toNat_natCast] at hq
      rw [c2]
      refine jT (by omega) (C_remember h k fun y hy fy => ⟨⟨by omega, by omega⟩, fun z ez w ew => ?_⟩)
      have hz : CF (uX (kn s) 5 b 0) z := by
        rw [ez, ← enc_6]
        exact hy.set (by omega) ⟨by omega, by omega⟩
      have kz : Ok (uX (kn s) 5 b 0) := k.knw.set (by rw [nB_kn]; omega) ⟨by omega, by omega⟩ (by omega)
      refine hq w (by rw [ew]; exact hz.on (by rw [ku0, ku1]; omega)) (kz.setB (by rw [nB_u5, nB_kn]; omega) (Or.inr rfl)) fun k hk => by rw [ew, uX_k (by omega), ez, uX_k (by omega), fy k (by omega)]
  · rw [if_neg c1] at hq ⊢
    exact jF rfl (hq x h k fun _ _ => rfl)
theorem R_unpick {s x : XM} {v1 : Int} {q : Int → XM → Prop} (h : RF s x) (k : Ok s) (hq : ∀ y : XM, RF (uUnp s v1).2 y → Gr x y → q (uUnp s v1).1 y) : M_X11_unpick x v1 q := by
  have kn0 : kn s 0 0 = s 0 0 := kn_05 (by decide)
  have kn1 : kn s 0 1 = s 0 1 := kn_05 (by decide)
  have ku0 : ∀ j z, uX (kn s) 5 j z 0 0 = s 0 0 := fun j z => by rw [uX_k (by decide)]; exact kn0
  have ku1 : ∀ j z, uX (kn s) 5 j z 0 1 = s 0 1 := fun j z => by rw [uX_k (by decide)]; exact kn1
  have hn := k.n
  have hw := k.w
  unfold uUnp at hq
  refine r_isNeed h k ?_
  unfold isN
  by_cases c1 : 0 ≤ v1 ∧ v1 < s 0 3
  · rw [if_pos c1] at hq ⊢
    refine jT (by decide) (r_sewnTo h k ⟨by omega, by omega⟩ ?_)
    rcases lstI_ge (nB s) (p := fun b => decide (s 5 b = 8 + v1)) with c | ⟨b, c2, c3, c4⟩
    · have c : sSw s (8 + v1) = -1 := c
      rw [if_pos c] at hq
      exact jF c (hq x h fun _ _ => rfl)
    · have c2 : sSw s (8 + v1) = (b : Int) := c2
      rw [c2, if_neg (by omega), Int.toNat_natCast] at hq
      rw [c2]
      refine jT (by omega) (R_know h k fun y hy fy _ => ⟨⟨by omega, by omega⟩, fun z ez => ⟨⟨by omega, by omega⟩, fun w ew => ?_⟩⟩)
      rw [Int.toNat_natCast] at ez
      rw [show (12 + (b : Int)).toNat = 12 + b by omega] at ew
      have hz : RF (uX (kn s) 5 b 0) z := by
        rw [ez]
        exact hy.set (by omega)
      refine hq w (by rw [ew]; exact hz.set (by rw [ku0, ku1]; omega)) fun k hk => by rw [ew, uX_k (by omega), ez, uX_k (by omega), fy k (by omega) (by omega)]
  · rw [if_neg c1] at hq ⊢
    exact jF rfl (hq x h fun _ _ => rfl)
def uPul (s : XM) (v1 : Int) : Int × XM :=
  if 0 ≤ v1 ∧ v1 < s 0 0 then (if 8 ≤ s 5 v1.toNat then (-1000000003, s) else if s 5 (12 + v1.toNat) = 0 then (-1000000003, s) else (sHo (uX (kn s) 5 (12 + v1.toNat) 0) v1.toNat, uX (kn s) 5 (12 + v1.toNat) 0)) else (-1000000001, s)
theorem C_pull {s x : XM} {v1 : Int} {q : Int → XM → Prop} (h : CF s x) (k : Ok s) (hq : ∀ y : XM, CF (uPul s v1).2 y → Ok (uPul s v1).2 → Fr x y → q (uPul s v1).1 y) : M_X10_pull x v1 q := by
  have kn0 : kn s 0 0 = s 0 0 := kn_05 (by decide)
  have kn1 : kn s 0 1 = s 0 1 := kn_05 (by decide)
  have ku0 : ∀ j z, uX (kn s) 5 j z 0 0 = s 0 0 := fun j z => by rw [uX_k (by decide)]; exact kn0
  have ku1 : ∀ j z, uX (kn s) 5 j z 0 1 = s 0 1 := fun j z => by rw [uX_k (by decide)]; exact kn1
  have hn := k.n
  unfold uPul at hq
  refine c_is1 h ?_
  unfold isN
  by_cases c1 : 0 ≤ v1 ∧ v1 < s 0 0
  · rw [if_pos c1] at hq ⊢
    obtain ⟨b, rfl⟩ : ∃ b : Nat, v1 = b := ⟨v1.toNat, by omega⟩
    rw [Int.toNat_natCast] at hq
    refine jT (by decide) (c_isSewn h (by omega) ?_)
    by_cases c3 : 8 ≤ s 5 b
    · rw [if_pos c3] at hq
      rw [if_neg (by omega)]
      exact jT (by decide) (hq x h k fun _ _ => rfl)
    · rw [if_neg c3] at hq
      rw [if_pos (by omega)]
      have hx := h.bent
      have hbe := h.be (b := b) (by omega)
      unfold tbit at hbe
      refine jF rfl ?_
      rw [show x 4 2 = ((x 4 2).toNat : Int) by omega]
      refine s_has10 (by omega) (by omega) ?_
      by_cases c4 : (x 4 2).toNat.testBit b = true
      · rw [if_pos c4] at hbe ⊢
        rw [if_neg (by omega)] at hq
        refine jT (by decide) (C_remember h k fun y hy fy z ez => ?_)
        have hz : CF (uX (kn s) 5 (12 + b) 0) z := by
          rw [ez]
          exact hy.off (by omega)
        have kz : Ok (uX (kn s) 5 (12 + b) 0) := k.knw.setB (by rw [nB_kn]; omega) (Or.inl rfl)
        refine c_holds hz kz (by rw [nB_u5, nB_kn]; omega) ?_
        exact hq z hz kz fun k hk => by rw [ez, uX_k (by omega), fy k (by omega)]
      · rw [if_neg c4] at hbe ⊢
        rw [if_pos hbe] at hq
        exact jF rfl (hq x h k fun _ _ => rfl)
  · rw [if_neg c1] at hq ⊢
    exact jF rfl (hq x h k fun _ _ => rfl)
theorem R_pull {s x : XM} {v1 : Int} {q : Int → XM → Prop} (h : RF s x) (k : Ok s) (hq : ∀ y : XM, RF (uPul s v1).2 y → Gr x y → q (uPul s v1).1 y) : M_X11_pull x v1 q := by
  have kn0 : kn s 0 0 = s 0 0 := kn_05 (by decide)
  have kn1 : kn s 0 1 = s 0 1 := kn_05 (by decide)
  have ku0 : ∀ j z, uX (kn s) 5 j z 0 0 = s 0 0 := fun j z => by rw [uX_k (by decide)]; exact kn0
  have ku1 : ∀ j z, uX (kn s) 5 j z 0 1 = s 0 1 := fun j z => by rw [uX_k (by decide)]; exact kn1
  have hn := k.n
  unfold uPul at hq
  refine r_isButton h k ?_
  unfold isN
  by_cases c1 : 0 ≤ v1 ∧ v1 < s 0 0
  · rw [if_pos c1] at hq ⊢
    obtain ⟨b, rfl⟩ : ∃ b : Nat, v1 = b := ⟨v1.toNat, by omega⟩
    rw [Int.toNat_natCast] at hq
    refine jT (by decide) ⟨⟨by omega, by omega⟩, ?_⟩
    rw [Int.toNat_natCast, h.nw (by omega), show (12 + (b : Int)).toNat = 12 + b by omega, h.nw (by omega)]
    by_cases c3 : 8 ≤ s 5 b
    · rw [if_pos c3] at hq
      exact iT c3 (hq x h fun _ _ => rfl)
    · rw [if_neg c3] at hq
      refine iF c3 ⟨⟨by omega, by omega⟩, ?_⟩
      by_cases c4 : s 5 (12 + b) = 0
      · rw [if_pos c4] at hq
        exact jF c4 (hq x h fun _ _ => rfl)
      · rw [if_neg c4] at hq
        refine jT c4 (R_know h k fun y hy fy _ => ⟨⟨by omega, by omega⟩, fun z ez => ?_⟩)
        have hz : RF (uX (kn s) 5 (12 + b) 0) z := by
          rw [ez]
          exact hy.set (by omega)
        have kz : Ok (uX (kn s) 5 (12 + b) 0) := k.knw.setB (by rw [nB_kn]; omega) (Or.inl rfl)
        exact r_holds hz kz (by rw [nB_u5, nB_kn]; omega) (hq z hz fun k hk => by rw [ez, uX_k (by omega), fy k (by omega) (by omega)])
  · rw [if_neg c1] at hq ⊢
    exact jF rfl (hq x h fun _ _ => rfl)
/-- two rules change places -/
def swp (s : XM) (p : Nat) (r : Int) : XM := uX (uX s 5 (24 + (p + 1)) (s 5 (24 + p))) 5 (24 + p) r
def uUp (s : XM) (v1 : Int) : Int × XM :=
  if 0 ≤ v1 ∧ v1 < s 0 1 then (if 0 < plc s v1 (nR s) 0 then (plc s v1 (nR s) 0 - 1, swp (kn s) ((plc s v1 (nR s) 0).toNat - 1) v1) else (-1000000003, s)) else (-1000000001, s)
theorem plc_ge {s : XM} {r : Int} : ∀ n p, plc s r n p = -1 ∨ ∃ p' : Nat, plc s r n p = (p' : Int) ∧ p ≤ p' ∧ p' < p + n ∧ s 5 (24 + p') = r
  | 0, p => Or.inl rfl
  | n + 1, p => by
    unfold plc
    split
    · rename_i e
      exact Or.inr ⟨p, rfl, by omega, by omega, e⟩
    · rcases plc_ge n (p + 1) (s := s) (r := r) with e | ⟨p', e1, e2, e3, e4⟩
      · exact Or.inl e
      · exact Or.inr ⟨p', e1, by omega, by omega, e4⟩
theorem plc_no {s : XM} {r : Int} : ∀ n p, plc s r n p = -1 → ∀ p', p ≤ p' → p' < p + n → s 5 (24 + p') ≠ r
  | 0, p, _, p', h1, h2 => by omega
  | n + 1, p, h, p', h1, h2 => by
    unfold plc at h
    split at h
    · omega
    · by_cases c : p' = p
      · rw [c]; assumption
      · exact plc_no n (p + 1) h p' (by omega) (by omega)
theorem plc_is {s : XM} (k : Ok s) {r : Nat} (hr : r < nR s) : ∃ p : Nat, plc s r (nR s) 0 = (p : Int) ∧ p < nR s ∧ s 5 (24 + p) = (r : Int) := by
  rcases plc_ge (nR s) 0 (s := s) (r := (r : Int)) with e | ⟨p, e1, _, e2, e3⟩
  · obtain ⟨p, hp, e1⟩ := k.place hr
    exact absurd e1 (plc_no _ _ e p (by omega) (by omega))
  · exact ⟨p, e1, by omega, e3⟩
theorem swp_o {s : XM} {p j : Nat} {r : Int} (h1 : j ≠ 24 + p) (h2 : j ≠ 24 + (p + 1)) : swp s p r 5 j = s 5 j := by
  unfold swp
  rw [uX_j h1, uX_j h2]
theorem swp_k {s : XM} {p k : Nat} {r : Int} (h : k ≠ 5) : swp s p r k = s k := by
  unfold swp
  rw [uX_k h, uX_k h]
theorem swp_1 {s : XM} {p : Nat} {r : Int} : swp s p r 5 (24 + p) = r := uX_eq
theorem swp_2 {s : XM} {p : Nat} {r : Int} : swp s p r 5 (24 + (p + 1)) = s 5 (24 + p) := by
  unfold swp
  rw [uX_j (by omega), uX_eq]
theorem Ok.swap {s : XM} {p : Nat} {r : Int} (k : Ok s) (hp : p + 1 < nR s) (hr : s 5 (24 + (p + 1)) = r) : Ok (swp s p r) := by
  have hn := k.r
  refine k.now (fun k j hk => by rw [swp_k hk]) ?_
  obtain ⟨a1, a2, a3, a4, a5, a6, a7, a8, a9⟩ := k.sn
  rw [Nat.zero_add] at a9
  simp only [Nat.zero_add] at a1 a2 a3 a4 a5 a6 a7 a8
  have key : ∀ i, i < 6 → ∃ i', i' < 6 ∧ swp s p r 5 (24 + i) = s 5 (24 + i') ∧ (i = p ∧ i' = p + 1 ∨ i = p + 1 ∧ i' = p ∨ i ≠ p ∧ i ≠ p + 1 ∧ i' = i) := fun i hi => by
    by_cases c : i = p
    · exact ⟨p + 1, by omega, by rw [c, swp_1, hr], Or.inl ⟨c, rfl⟩⟩
    · by_cases d : i = p + 1
      · exact ⟨p, by omega, by rw [d, swp_2], Or.inr (Or.inl ⟨d, rfl⟩)⟩
      · exact ⟨i, hi, swp_o (by omega) (by omega), Or.inr (Or.inr ⟨c, d, rfl⟩)⟩
  refine ⟨?_, ?_, ?_, ?_, ?_, ?_, ?_, ?_, ?_⟩
  all_goals simp only [Nat.zero_add]
  · intro c hc
    rw [swp_o (by omega) (by omega)]
    exact a1 c hc
  · intro c hc h0
    rw [swp_k (by decide)] at h0
    rw [swp_o (by omega) (by omega)]
    exact a2 c hc h0
  · intro c d hc hd
    rw [swp_o (by omega) (by omega), swp_o (by omega) (by omega)]
    exact a3 c d hc hd
  · intro c hc
    rw [swp_o (by omega) (by omega)]
    exact a4 c hc
  · intro c hc h0
    rw [swp_k (by decide)] at h0
    rw [swp_o (by omega) (by omega)]
    exact a5 c hc h0
  · intro i hi
    obtain ⟨i', h1, h2, _⟩ := key i hi
    rw [h2]
    exact a6 i' h1
  · intro i hi
    rw [swp_k (k := 0) (by decide)] at hi ⊢
    obtain ⟨i', h1, h2, _⟩ := key i (by omega)
    rw [h2]
    exact a7 i' (by omega)
  · intro i j hi hj e
    rw [swp_k (k := 0) (by decide)] at hi hj
    obtain ⟨i', h1, h2, _⟩ := key i (by omega)
    obtain ⟨j', h3, h4, _⟩ := key j (by omega)
    rw [h2, h4] at e
    have := a8 i' j' (by omega) (by omega) e
    omega
  · rw [swp_o (by omega) (by omega)]
    exact a9
theorem C_up {s x : XM} {v1 : Int} {q : Int → XM → Prop} (h : CF s x) (k : Ok s) (hq : ∀ y : XM, CF (uUp s v1).2 y → Ok (uUp s v1).2 → Fr x y → q (uUp s v1).1 y) : M_X10_up x v1 q := by
  have kn0 : kn s 0 0 = s 0 0 := kn_05 (by decide)
  have kn1 : kn s 0 1 = s 0 1 := kn_05 (by decide)
  have ku0 : ∀ j z, uX (kn s) 5 j z 0 0 = s 0 0 := fun j z => by rw [uX_k (by decide)]; exact kn0
  have ku1 : ∀ j z, uX (kn s) 5 j z 0 1 = s 0 1 := fun j z => by rw [uX_k (by decide)]; exact kn1
  have hn := k.r
  unfold uUp at hq
  refine c_is2 h ?_
  unfold isN
  by_cases c1 : 0 ≤ v1 ∧ v1 < s 0 1
  · rw [if_pos c1] at hq ⊢
    obtain ⟨r, rfl⟩ : ∃ r : Nat, v1 = r := ⟨v1.toNat, by omega⟩
    refine jT (by decide) (c_placeOfRule h k ?_)
    obtain ⟨p, e1, e2, e3⟩ := plc_is k (r := r) (by omega)
    rw [e1] at hq ⊢
    by_cases c : 0 < (p : Int)
    · rw [if_pos c, Int.toNat_natCast] at hq
      obtain ⟨p, rfl⟩ : ∃ p', p = p' + 1 := ⟨p - 1, by omega⟩
      rw [Nat.add_sub_cancel] at hq
      refine iT c (C_remember h k fun y hy fy => ⟨⟨by omega, by omega⟩, ⟨by omega, by omega⟩, fun z ez => ⟨⟨by omega, by omega⟩, fun w ew => ⟨⟨by omega, by omega⟩, ?_⟩⟩⟩)
      rw [show (((p + 1 : Nat) : Int) - 1).toNat = p by omega] at ez ew
      rw [Int.toNat_natCast] at ez
      rw [← hy.or (by omega)] at ez
      refine hq w ?_ (k.knw.swap (by rw [nR_kn]; omega) (by rw [kno5]; exact e3)) fun k hk => by rw [ew, uX_k (by omega), ez, uX_k (by omega), fy k (by omega)]
      rw [ew, ez]
      exact (hy.setO (by omega)).setO (by rw [ku0, ku1]; omega)
    · rw [if_neg c] at hq
      exact iF c (hq x h k fun _ _ => rfl)
  · rw [if_neg c1] at hq ⊢
    exact jF rfl (hq x h k fun _ _ => rfl)
theorem R_up {s x : XM} {v1 : Int} {q : Int → XM → Prop} (h : RF s x) (k : Ok s) (hq : ∀ y : XM, RF (uUp s v1).2 y → Gr x y → q (uUp s v1).1 y) : M_X11_up x v1 q := by
  have kn0 : kn s 0 0 = s 0 0 := kn_05 (by decide)
  have kn1 : kn s 0 1 = s 0 1 := kn_05 (by decide)
  have ku0 : ∀ j z, uX (kn s) 5 j z 0 0 = s 0 0 := fun j z => by rw [uX_k (by decide)]; exact kn0
  have ku1 : ∀ j z, uX (kn s) 5 j z 0 1 = s 0 1 := fun j z => by rw [uX_k (by decide)]; exact kn1
  have hn := k.r
  unfold uUp at hq
  refine r_isRule h k ?_
  unfold isN
  by_cases c1 : 0 ≤ v1 ∧ v1 < s 0 1
  · rw [if_pos c1] at hq ⊢
    obtain ⟨r, rfl⟩ : ∃ r : Nat, v1 = r := ⟨v1.toNat, by omega⟩
    refine jT (by decide) (r_placeOf h k (by omega) ?_)
    obtain ⟨p, e1, e2, e3⟩ := plc_is k (r := r) (by omega)
    rw [e1] at hq ⊢
    by_cases c : 0 < (p : Int)
    · rw [if_pos c, Int.toNat_natCast] at hq
      obtain ⟨p, rfl⟩ : ∃ p', p = p' + 1 := ⟨p - 1, by omega⟩
      rw [Nat.add_sub_cancel] at hq
      refine jT (by omega) (R_know h k fun y hy fy _ => ⟨⟨by omega, by omega⟩, ⟨by omega, by omega⟩, fun z ez => ⟨⟨by omega, by omega⟩, fun w ew => ⟨⟨by omega, by omega⟩, ?_⟩⟩⟩)
      rw [show (24 + ((p + 1 : Nat) : Int) - 1).toNat = 24 + p by omega] at ez ew
      rw [show (24 + ((p + 1 : Nat) : Int)).toNat = 24 + (p + 1) by omega, hy.nw (by omega)] at ez
      refine hq w ?_ fun k hk => by rw [ew, uX_k (by omega), ez, uX_k (by omega), fy k (by omega) (by omega)]
      rw [ew, ez]
      exact (hy.set (by omega)).set (by rw [ku0, ku1]; omega)
    · rw [if_neg c] at hq
      exact jF (by omega) (hq x h fun _ _ => rfl)
  · rw [if_neg c1] at hq ⊢
    exact jF rfl (hq x h fun _ _ => rfl)
