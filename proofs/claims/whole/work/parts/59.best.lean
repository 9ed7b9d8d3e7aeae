/-! ===== the best matching ===== -/
def gv (C : Int) (f : Nat → Int) : Nat → Int
  | 0 => 0
  | b + 1 => C - f b
def vs (g : Nat → Int) (m : Nat → Nat) : Nat → Int
  | 0 => 0
  | n + 1 => vs g m n + g (m n)
theorem vs_cong {g : Nat → Int} {m m' : Nat → Nat} : ∀ n, (∀ j, j < n → m' j = m j) → vs g m' n = vs g m n
  | 0, _ => rfl
  | n + 1, h => by
    unfold vs
    rw [vs_cong n (fun j hj => h j (by omega)), h n (by omega)]
theorem vs_upd {g : Nat → Int} {m m' : Nat → Nat} {i : Nat} (h : ∀ j, j ≠ i → m' j = m j) : ∀ n, i < n → vs g m' n = vs g m n - g (m i) + g (m' i)
  | 0, hi => by omega
  | n + 1, hi => by
    unfold vs
    by_cases c : i = n
    · rw [vs_cong n (fun j hj => h j (by omega)), c]; omega
    · rw [vs_upd h n (by omega), h n (fun e => c e.symm)]; omega
theorem vs_up {g : Nat → Int} {m m' : Nat → Nat} {i a z : Nat} (n : Nat) (hi : i < n) (h : ∀ j, j ≠ i → m' j = m j) (ha : m i = a) (hz : m' i = z) : vs g m' n = vs g m n - g a + g z := by
  rw [vs_upd h n hi, ha, hz]
def Mch (f w : Nat → Int) (L N : Nat) (m : Nat → Nat) : Prop := (∀ j b, m j = b + 1 → N.testBit j = true ∧ L.testBit b = true ∧ w j ≤ f b) ∧ ∀ j j' b, m j = b + 1 → m j' = b + 1 → j = j'
/-- v is the most that the needs of N can be worth with the buttons of L -/
def Best (C : Int) (f w : Nat → Int) (L N : Nat) (v : Int) : Prop := (∃ m, Mch f w L N m ∧ vs (gv C f) m 5 = v) ∧ ∀ m, Mch f w L N m → vs (gv C f) m 5 ≤ v
theorem nd1 {N i j : Nat} : (ndiff N (2 ^ i)).testBit j = true ↔ N.testBit j = true ∧ j ≠ i := by
  rw [ndiff_bit, Nat.testBit_two_pow]
  by_cases c : i = j
  · subst c; simp
  · have : j ≠ i := fun e => c e.symm
    simp [c, this]
theorem vs_zero {C : Int} {f : Nat → Int} {m : Nat → Nat} (h : ∀ j, m j = 0) : ∀ n, vs (gv C f) m n = 0
  | 0 => rfl
  | n + 1 => by
    unfold vs
    rw [vs_zero h n, h n]
    rfl
theorem Mch.none {f w : Nat → Int} {L N : Nat} : Mch f w L N (fun _ => 0) := ⟨fun _ _ e => Nat.noConfusion e, fun _ _ _ e => Nat.noConfusion e⟩
theorem Best.nil {C : Int} {f w : Nat → Int} {L N : Nat} (h : ∀ j b, N.testBit j = true → L.testBit b = true → ¬ w j ≤ f b) : Best C f w L N 0 := by
  refine ⟨⟨fun _ => 0, Mch.none, vs_zero (fun _ => rfl) 5⟩, fun m hm => ?_⟩
  rw [vs_zero (fun j => ?_) 5]
  · exact Int.le_refl 0
  · cases e : m j with
    | zero => rfl
    | succ b =>
      obtain ⟨h1, h2, h3⟩ := hm.1 j b e
      exact absurd h3 (h j b h1 h2)
theorem Best.pos {C v : Int} {f w : Nat → Int} {L N : Nat} (h : Best C f w L N v) : 0 ≤ v := by
  have := h.2 (fun _ => 0) Mch.none
  rw [vs_zero (fun _ => rfl) 5] at this
  exact this
theorem Best.uniq {C v v' : Int} {f w : Nat → Int} {L N : Nat} (h : Best C f w L N v) (h' : Best C f w L N v') : v = v' := by
  obtain ⟨⟨m, a1, a2⟩, a3⟩ := h
  obtain ⟨⟨m', b1, b2⟩, b3⟩ := h'
  have := a3 m' b1
  have := b3 m a1
  omega
theorem Mch.on {C : Int} {f w : Nat → Int} {L N i b : Nat} {m : Nat → Nat} (hi : i < 5) (hN : N.testBit i = true) (hL : L.testBit b = true) (hw : w i ≤ f b) (h : Mch f w (ndiff L (2 ^ b)) (ndiff N (2 ^ i)) m) : Mch f w L N (fun j => if j = i then b + 1 else m j) ∧ vs (gv C f) (fun j => if j = i then b + 1 else m j) 5 = C - f b + vs (gv C f) m 5 := by
  have hm : m i = 0 := by
    cases e : m i with
    | zero => rfl
    | succ c => exact absurd rfl (nd1.1 (h.1 i c e).1).2
  refine ⟨⟨fun j c (e : (if j = i then b + 1 else m j) = c + 1) => ?_, fun j j' c (e : (if j = i then b + 1 else m j) = c + 1) (e' : (if j' = i then b + 1 else m j') = c + 1) => ?_⟩, ?_⟩
  · by_cases d : j = i
    · rw [if_pos d] at e
      have : c = b := by omega
      rw [d, this]
      exact ⟨hN, hL, hw⟩
    · rw [if_neg d] at e
      obtain ⟨h1, h2, h3⟩ := h.1 j c e
      exact ⟨(nd1.1 h1).1, (nd1.1 h2).1, h3⟩
  · by_cases d : j = i <;> by_cases d' : j' = i
    · rw [d, d']
    · rw [if_pos d] at e
      rw [if_neg d'] at e'
      exact absurd (by omega) (nd1.1 (h.1 j' c e').2.1).2
    · rw [if_pos d'] at e'
      rw [if_neg d] at e
      exact absurd (by omega) (nd1.1 (h.1 j c e).2.1).2
    · rw [if_neg d] at e
      rw [if_neg d'] at e'
      exact h.2 j j' c e e'
  · have := vs_up (g := gv C f) (m := m) (m' := fun j => if j = i then b + 1 else m j) 5 hi (fun j hj => if_neg hj) hm (if_pos rfl)
    have g0 : gv C f 0 = 0 := rfl
    have g1 : gv C f (b + 1) = C - f b := rfl
    omega
theorem Mch.off {C : Int} {f w : Nat → Int} {L N i b : Nat} {m : Nat → Nat} (hi : i < 5) (h : Mch f w L N m) (hm : m i = b + 1) : Mch f w (ndiff L (2 ^ b)) (ndiff N (2 ^ i)) (fun j => if j = i then 0 else m j) ∧ vs (gv C f) m 5 = C - f b + vs (gv C f) (fun j => if j = i then 0 else m j) 5 := by
  refine ⟨⟨fun j c (e : (if j = i then 0 else m j) = c + 1) => ?_, fun j j' c (e : (if j = i then 0 else m j) = c + 1) (e' : (if j' = i then 0 else m j') = c + 1) => ?_⟩, ?_⟩
  · by_cases d : j = i
    · rw [if_pos d] at e; cases e
    · rw [if_neg d] at e
      obtain ⟨h1, h2, h3⟩ := h.1 j c e
      refine ⟨nd1.2 ⟨h1, d⟩, nd1.2 ⟨h2, fun q => d ?_⟩, h3⟩
      rw [q] at e
      exact h.2 j i b e hm
  · by_cases d : j = i
    · rw [if_pos d] at e; cases e
    · by_cases d' : j' = i
      · rw [if_pos d'] at e'; cases e'
      · rw [if_neg d] at e
        rw [if_neg d'] at e'
        exact h.2 j j' c e e'
  · have := vs_up (g := gv C f) (m := m) (m' := fun j => if j = i then 0 else m j) 5 hi (fun j hj => if_neg hj) hm (if_pos rfl)
    have g0 : gv C f 0 = 0 := rfl
    have g1 : gv C f (b + 1) = C - f b := rfl
    omega
theorem Mch.skip {f w : Nat → Int} {L N i : Nat} {m : Nat → Nat} (h : Mch f w L (ndiff N (2 ^ i)) m) : Mch f w L N m := ⟨fun j b e => ⟨(nd1.1 (h.1 j b e).1).1, (h.1 j b e).2⟩, h.2⟩
theorem Mch.miss {f w : Nat → Int} {L N i : Nat} {m : Nat → Nat} (h : Mch f w L N m) (hm : m i = 0) : Mch f w L (ndiff N (2 ^ i)) m := ⟨fun j b e => ⟨nd1.2 ⟨(h.1 j b e).1, fun q => by rw [q, hm] at e; cases e⟩, (h.1 j b e).2⟩, h.2⟩
/-- one need more -/
theorem Best.step {C v0 v : Int} {f w : Nat → Int} {L N i : Nat} {t : Nat → Int} (hi : i < 5) (hN : N.testBit i = true) (h0 : Best C f w L (ndiff N (2 ^ i)) v0) (ht : ∀ b, L.testBit b = true → w i ≤ f b → Best C f w (ndiff L (2 ^ b)) (ndiff N (2 ^ i)) (t b)) (hv : v = v0 ∨ ∃ b, L.testBit b = true ∧ w i ≤ f b ∧ v = C - f b + t b) (hv0 : v0 ≤ v) (hvb : ∀ b, L.testBit b = true → w i ≤ f b → C - f b + t b ≤ v) : Best C f w L N v := by
  refine ⟨?_, fun m hm => ?_⟩
  · rcases hv with e | ⟨b, h1, h2, e⟩
    · obtain ⟨⟨m, a1, a2⟩, _⟩ := h0
      exact ⟨m, a1.skip, by rw [a2, e]⟩
    · obtain ⟨⟨m, a1, a2⟩, _⟩ := ht b h1 h2
      have := a1.on (C := C) hi hN h1 h2
      exact ⟨_, this.1, by rw [this.2, a2, e]⟩
  · cases e : m i with
    | zero =>
      have := h0.2 m (hm.miss e)
      omega
    | succ b =>
      obtain ⟨h1, h2, h3⟩ := hm.1 i b e
      have o := hm.off (C := C) hi e
      have := (ht b h2 h3).2 _ o.1
      have := hvb b h2 h3
      omega
/-- the weakest button that will do may always be taken -/
theorem Best.weak {C v : Int} {f w : Nat → Int} {L N i b : Nat} (hN5 : N < 2 ^ 5) (hN : N.testBit i = true) (hL : L.testBit b = true) (hw : w i ≤ f b) (hmin : ∀ c, L.testBit c = true → w i ≤ f c → f b ≤ f c) (hC : f b ≤ C) (h : Best C f w (ndiff L (2 ^ b)) (ndiff N (2 ^ i)) v) : Best C f w L N (C - f b + v) := by
  have hi : i < 5 := bit_lt hN5 hN
  obtain ⟨⟨m0, a1, a2⟩, a3⟩ := h
  refine ⟨⟨_, (a1.on (C := C) hi hN hL hw).1, by rw [(a1.on (C := C) hi hN hL hw).2, a2]⟩, fun m hm => ?_⟩
  have hM : Mch f w (ndiff L (2 ^ b)) (ndiff N (2 ^ i)) (fun j => if j = i then 0 else if m j = b + 1 then m i else m j) := by
    refine ⟨fun j c (e : (if j = i then 0 else if m j = b + 1 then m i else m j) = c + 1) => ?_, fun j j' c (e : (if j = i then 0 else if m j = b + 1 then m i else m j) = c + 1) (e' : (if j' = i then 0 else if m j' = b + 1 then m i else m j') = c + 1) => ?_⟩
    · by_cases d : j = i
      · rw [if_pos d] at e; cases e
      · rw [if_neg d] at e
        by_cases g : m j = b + 1
        · rw [if_pos g] at e
          obtain ⟨h1, h2, h3⟩ := hm.1 j b g
          obtain ⟨h4, h5, h6⟩ := hm.1 i c e
          refine ⟨nd1.2 ⟨h1, d⟩, nd1.2 ⟨h5, fun q => d ?_⟩, Int.le_trans h3 (hmin c h5 h6)⟩
          rw [q] at e
          exact hm.2 j i b g e
        · rw [if_neg g] at e
          obtain ⟨h1, h2, h3⟩ := hm.1 j c e
          exact ⟨nd1.2 ⟨h1, d⟩, nd1.2 ⟨h2, fun q => g (by rw [e, q])⟩, h3⟩
    · by_cases d : j = i
      · rw [if_pos d] at e; cases e
      · by_cases d' : j' = i
        · rw [if_pos d'] at e'; cases e'
        · rw [if_neg d] at e
          rw [if_neg d'] at e'
          by_cases g : m j = b + 1 <;> by_cases g' : m j' = b + 1
          · exact hm.2 j j' b g g'
          · rw [if_pos g] at e
            rw [if_neg g'] at e'
            exact absurd (hm.2 i j' c e e').symm d'
          · rw [if_neg g] at e
            rw [if_pos g'] at e'
            exact absurd (hm.2 j i c e e') d
          · rw [if_neg g] at e
            rw [if_neg g'] at e'
            exact hm.2 j j' c e e'
  have hv := a3 _ hM
  have e1 := vs_up (g := gv C f) (m := m) (m' := fun j => if j = i then 0 else m j) 5 hi (fun j hj => if_neg hj) rfl (if_pos rfl)
  have g0 : gv C f 0 = 0 := rfl
  by_cases hex : ∃ j, j ≠ i ∧ m j = b + 1
  · obtain ⟨j, hji, hj⟩ := hex
    have hj5 : j < 5 := bit_lt hN5 (hm.1 j b hj).1
    have e2 := vs_up (g := gv C f) (m := fun j => if j = i then 0 else m j) (m' := fun j => if j = i then 0 else if m j = b + 1 then m i else m j) (i := j) (a := b + 1) (z := m i) 5 hj5 (fun j' hj' => by
      show (if j' = i then 0 else if m j' = b + 1 then m i else m j') = (if j' = i then 0 else m j')
      by_cases d : j' = i
      · rw [if_pos d, if_pos d]
      · rw [if_neg d, if_neg d, if_neg (fun q => hj' (hm.2 j' j b q hj))]) (by show (if j = i then 0 else m j) = b + 1; rw [if_neg hji, hj]) (by show (if j = i then 0 else if m j = b + 1 then m i else m j) = m i; rw [if_neg hji, if_pos hj])
    have g1 : gv C f (b + 1) = C - f b := rfl
    omega
  · have e2 := vs_cong (g := gv C f) (m := fun j => if j = i then 0 else m j) (m' := fun j => if j = i then 0 else if m j = b + 1 then m i else m j) 5 (fun j _ => by
      show (if j = i then 0 else if m j = b + 1 then m i else m j) = (if j = i then 0 else m j)
      by_cases d : j = i
      · rw [if_pos d, if_pos d]
      · rw [if_neg d, if_neg d, if_neg (fun q => hex ⟨j, d, q⟩)])
    cases e : m i with
    | zero =>
      rw [e, g0] at e1
      omega
    | succ c =>
      obtain ⟨h1, h2, h3⟩ := hm.1 i c e
      have := hmin c h2 h3
      have g1 : gv C f (c + 1) = C - f c := rfl
      rw [e, g1] at e1
      omega
theorem vs_ct {f : Nat → Int} {m : Nat → Nat} (h : ∀ j b, m j = b + 1 → 0 ≤ f b ∧ f b ≤ 45) : ∀ n : Nat, ∃ c t : Int, 0 ≤ c ∧ c ≤ n ∧ 0 ≤ t ∧ t ≤ 45 * n ∧ t ≤ 45 * c ∧ vs (gv 1000 f) m n = 1000 * c - t ∧ vs (gv 10000 f) m n = 10000 * c - t
  | 0 => ⟨0, 0, by decide, by decide, by decide, by decide, by decide, rfl, rfl⟩
  | n + 1 => by
    obtain ⟨c, t, h1, h2, h3, h4, h5, h6, h7⟩ := vs_ct h n
    unfold vs
    rw [h6, h7]
    cases e : m n with
    | zero => exact ⟨c, t, h1, by omega, h3, by omega, h5, by show _ + (0 : Int) = _; omega, by show _ + (0 : Int) = _; omega⟩
    | succ b =>
      have := h n b e
      exact ⟨c + 1, t + f b, by omega, by omega, by omega, by omega, by omega, by show _ + (1000 - f b) = _; omega, by show _ + (10000 - f b) = _; omega⟩
/-- the same best, counted in thousands and in ten thousands -/
theorem Best.two {v v' : Int} {f w : Nat → Int} {L N : Nat} (hf : ∀ b, L.testBit b = true → 0 ≤ f b ∧ f b ≤ 45) (h : Best 1000 f w L N v) (h' : Best 10000 f w L N v') : ∃ c t : Int, 0 ≤ c ∧ c ≤ 5 ∧ 0 ≤ t ∧ t ≤ 225 ∧ v = 1000 * c - t ∧ v' = 10000 * c - t := by
  obtain ⟨⟨m, a1, a2⟩, a3⟩ := h
  obtain ⟨⟨m', b1, b2⟩, b3⟩ := h'
  obtain ⟨c, t, h1, h2, h3, h4, h5, h6, h7⟩ := vs_ct (f := f) (m := m) (fun j b e => hf b (a1.1 j b e).2.1) 5
  obtain ⟨c', t', k1, k2, k3, k4, k5, k6, k7⟩ := vs_ct (f := f) (m := m') (fun j b e => hf b (b1.1 j b e).2.1) 5
  have p := a3 m' b1
  have r := b3 m a1
  exact ⟨c, t, h1, by omega, h3, by omega, by omega, by omega⟩
