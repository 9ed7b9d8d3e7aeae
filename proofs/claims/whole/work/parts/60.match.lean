/-! ===== match: what both answer ===== -/
def op (s : XM) (i : Nat) : Bool := decide (i < nN s) && decide (sSw s (8 + (i : Int)) = -1)
def mxF (g : Nat → Int) (v : Int) : Nat → Int
  | 0 => v
  | n + 1 => if g n ≤ mxF g v n then mxF g v n else g n
theorem mxF_p {g : Nat → Int} {v : Int} : ∀ n, v ≤ mxF g v n ∧ (∀ b, b < n → g b ≤ mxF g v n) ∧ (mxF g v n = v ∨ ∃ b, b < n ∧ mxF g v n = g b)
  | 0 => ⟨Int.le_refl _, fun b hb => by omega, Or.inl rfl⟩
  | n + 1 => by
    obtain ⟨h1, h2, h3⟩ := mxF_p (g := g) (v := v) n
    unfold mxF
    by_cases c : g n ≤ mxF g v n
    · rw [if_pos c]
      refine ⟨h1, fun b hb => ?_, ?_⟩
      · by_cases d : b = n
        · rw [d]; exact c
        · exact h2 b (by omega)
      · rcases h3 with e | ⟨b, hb, e⟩
        · exact Or.inl e
        · exact Or.inr ⟨b, by omega, e⟩
    · rw [if_neg c]
      refine ⟨by omega, fun b hb => ?_, Or.inr ⟨n, by omega, rfl⟩⟩
      by_cases d : b = n
      · rw [d]; exact Int.le_refl _
      · have := h2 b (by omega)
        omega
/-- the most that the needs from i on are worth -/
def tv (s : XM) (C : Int) : Nat → Nat → Nat → Int
  | 0, _, _ => 0
  | k + 1, i, L => if op s i = true then mxF (fun b => if L.testBit b = true ∧ s 4 i ≤ sHo s b then C - sHo s b + tv s C k (i + 1) (ndiff L (2 ^ b)) else 0) (tv s C k (i + 1) L) (nB s) else tv s C k (i + 1) L
def NB (s : XM) (i N : Nat) : Prop := ∀ j, N.testBit j = (decide (i ≤ j) && op s j)
theorem op_lt {s : XM} {i : Nat} (h : op s i = true) : i < nN s := by
  unfold op at h
  rw [Bool.and_eq_true] at h
  exact of_decide_eq_true h.1
theorem NB.on {s : XM} {i N : Nat} (h : NB s i N) : NB s (i + 1) (ndiff N (2 ^ i)) := by
  intro j
  rw [ndiff_bit, h j, Nat.testBit_two_pow]
  by_cases c : i = j
  · rw [c, decide_eq_false (show ¬ j + 1 ≤ j by omega)]; simp
  · rw [decide_eq_false c]
    by_cases d : i ≤ j
    · rw [decide_eq_true d, decide_eq_true (show i + 1 ≤ j by omega)]; simp
    · rw [decide_eq_false d, decide_eq_false (show ¬ i + 1 ≤ j by omega)]; simp
theorem NB.no {s : XM} {i N : Nat} (h : NB s i N) (ho : ¬ op s i = true) : NB s (i + 1) N := by
  intro j
  rw [h j]
  by_cases c : i = j
  · rw [← c]
    have : op s i = false := by
      cases e : op s i
      · rfl
      · exact absurd e ho
    rw [this]; simp
  · rw [show decide (i ≤ j) = decide (i + 1 ≤ j) by rw [decide_eq_decide]; omega]
theorem NB.bit {s : XM} {i N j : Nat} (h : NB s i N) (hj : N.testBit j = true) : i ≤ j ∧ op s j = true ∧ j < nN s := by
  rw [h j, Bool.and_eq_true] at hj
  exact ⟨of_decide_eq_true hj.1, hj.2, op_lt hj.2⟩
theorem lt_5 {N : Nat} (h : ∀ j, N.testBit j = true → j < 5) : N < 2 ^ 5 := by
  apply Nat.lt_pow_two_of_testBit
  intro i hi
  cases e : N.testBit i
  · rfl
  · have := h i e
    omega
theorem tv_B {s : XM} {C : Int} (k : Ok s) : ∀ m i L N, i + m = 5 → L < 2 ^ nB s → NB s i N → Best C (sHo s) (s 4) L N (tv s C m i L)
  | 0, i, L, N, hi, hL, hN => Best.nil fun j b h1 _ => by
    have := hN.bit h1
    have := k.w
    omega
  | m + 1, i, L, N, hi, hL, hN => by
    unfold tv
    by_cases c : op s i = true
    · rw [if_pos c]
      have hNi : N.testBit i = true := by rw [hN i, c]; simp
      have h0 := tv_B (C := C) k m (i + 1) L _ (by omega) hL hN.on
      have hp := mxF_p (g := fun b => if L.testBit b = true ∧ s 4 i ≤ sHo s b then C - sHo s b + tv s C m (i + 1) (ndiff L (2 ^ b)) else 0) (v := tv s C m (i + 1) L) (nB s)
      refine Best.step (t := fun b => tv s C m (i + 1) (ndiff L (2 ^ b))) (by omega) hNi h0 (fun b _ _ => tv_B k m (i + 1) _ _ (by omega) (ndiff_lt hL) hN.on) ?_ hp.1 (fun b h1 h2 => ?_)
      · rcases hp.2.2 with e | ⟨b, hb, e⟩
        · exact Or.inl e
        · by_cases d : L.testBit b = true ∧ s 4 i ≤ sHo s b
          · rw [if_pos d] at e
            exact Or.inr ⟨b, d.1, d.2, e⟩
          · rw [if_neg d] at e
            have := hp.1
            have := h0.pos
            exact Or.inl (by omega)
      · have := hp.2.1 b (bit_lt hL h1)
        rw [if_pos ⟨h1, h2⟩] at this
        exact this
    · rw [if_neg c]
      exact tv_B k m (i + 1) L N (by omega) hL (hN.no c)
theorem bitsN {s : XM} (i : Nat) (k : Ok s) : ∃ N, NB s i N := ⟨bts (fun j => decide (i ≤ j) && op s j) (nN s), fun j => by
  rw [bts_bit]
  cases e : op s j
  · simp
  · rw [decide_eq_true (op_lt e)]; simp⟩
/-- the needs that are left, in thousands and ten thousands -/
theorem tv_two {s : XM} (k : Ok s) {m i L : Nat} (hi : i + m = 5) (hL : L < 2 ^ nB s) : ∃ c t : Int, 0 ≤ c ∧ c ≤ 5 ∧ 0 ≤ t ∧ t ≤ 225 ∧ tv s 1000 m i L = 1000 * c - t ∧ tv s 10000 m i L = 10000 * c - t := by
  obtain ⟨N, hN⟩ := bitsN i k
  exact Best.two (fun b hb => ⟨(k.ho (bit_lt hL hb)).1, (k.ho (bit_lt hL hb)).2.1⟩) (tv_B k m i L N hi hL hN) (tv_B k m i L N hi hL hN)
def fs (p : Nat → Bool) : Nat → Nat → Int
  | 0, _ => -1
  | n + 1, b => if p b = true then (b : Int) else fs p n (b + 1)
theorem fs_p {p : Nat → Bool} : ∀ n b, (fs p n b = -1 ∧ ∀ c, b ≤ c → c < b + n → p c = false) ∨ ∃ c : Nat, fs p n b = (c : Int) ∧ b ≤ c ∧ c < b + n ∧ p c = true
  | 0, b => Or.inl ⟨rfl, fun c h1 h2 => by omega⟩
  | n + 1, b => by
    unfold fs
    by_cases d : p b = true
    · rw [if_pos d]
      exact Or.inr ⟨b, rfl, by omega, by omega, d⟩
    · rw [if_neg d]
      rcases fs_p (p := p) n (b + 1) with ⟨e, h⟩ | ⟨c, e, h1, h2, h3⟩
      · refine Or.inl ⟨e, fun c h1 h2 => ?_⟩
        by_cases g : c = b
        · rw [g]
          cases e : p b
          · rfl
          · exact absurd e d
        · exact h c (by omega) (by omega)
      · exact Or.inr ⟨c, e, by omega, by omega, h3⟩
def pc (s : XM) (i L b : Nat) : Bool := L.testBit b && (decide (s 4 i ≤ sHo s b) && decide (10000 - sHo s b + tv s 10000 (4 - i) (i + 1) (ndiff L (2 ^ b)) = tv s 10000 (5 - i) i L))
theorem pc_t {s : XM} {i L b : Nat} : pc s i L b = true ↔ L.testBit b = true ∧ s 4 i ≤ sHo s b ∧ 10000 - sHo s b + tv s 10000 (4 - i) (i + 1) (ndiff L (2 ^ b)) = tv s 10000 (5 - i) i L := by
  unfold pc
  rw [Bool.and_eq_true, Bool.and_eq_true, decide_eq_true_eq, decide_eq_true_eq]
/-- the button for need i, when L are loose -/
def cho (s : XM) (i L : Nat) : Int := if op s i = true then fs (pc s i L) (nB s) 0 else -1
def Lq (s : XM) : Nat → Nat
  | 0 => sSt s 0
  | i + 1 => if cho s i (Lq s i) = -1 then Lq s i else ndiff (Lq s i) (2 ^ (cho s i (Lq s i)).toNat)
def chq (s : XM) (i : Nat) : Int := cho s i (Lq s i)
def cnq (s : XM) : Nat → Int
  | 0 => 0
  | i + 1 => cnq s i + (if chq s i = -1 then 0 else 1)
def smq (s : XM) : Nat → Int
  | 0 => 0
  | i + 1 => smq s i + (if chq s i = -1 then 0 else sHo s (chq s i).toNat)
def sMat (s : XM) (v : Int) : Int := if v = -1 then cnq s 5 else if v = -2 then smq s 5 else if 0 ≤ v ∧ v < s 0 3 then chq s v.toNat else -1000000001
theorem Lq_lt {s : XM} : ∀ i, Lq s i < 2 ^ nB s
  | 0 => sSt_lt _
  | i + 1 => by
    unfold Lq
    split
    · exact Lq_lt i
    · exact ndiff_lt (Lq_lt i)
theorem chq_p {s : XM} (i : Nat) : chq s i = -1 ∨ ∃ b : Nat, chq s i = (b : Int) ∧ b < nB s ∧ op s i = true ∧ pc s i (Lq s i) b = true := by
  unfold chq cho
  by_cases c : op s i = true
  · rw [if_pos c]
    rcases fs_p (p := pc s i (Lq s i)) (nB s) 0 with ⟨e, _⟩ | ⟨b, e, _, h2, h3⟩
    · exact Or.inl e
    · exact Or.inr ⟨b, e, by omega, c, h3⟩
  · rw [if_neg c]; exact Or.inl rfl
theorem Lq_no {s : XM} {i : Nat} (h : chq s i = -1) : Lq s (i + 1) = Lq s i := if_pos h
theorem Lq_on {s : XM} {i b : Nat} (h : chq s i = (b : Int)) : Lq s (i + 1) = ndiff (Lq s i) (2 ^ b) := by
  show (if chq s i = -1 then Lq s i else ndiff (Lq s i) (2 ^ (chq s i).toNat)) = _
  rw [if_neg (by omega), h, Int.toNat_natCast]
theorem pc_1000 {s : XM} (k : Ok s) {i L b : Nat} (hi : i < 5) (hL : L < 2 ^ nB s) (hb : b < nB s) : (1000 - sHo s b + tv s 1000 (4 - i) (i + 1) (ndiff L (2 ^ b)) = tv s 1000 (5 - i) i L) ↔ (10000 - sHo s b + tv s 10000 (4 - i) (i + 1) (ndiff L (2 ^ b)) = tv s 10000 (5 - i) i L) := by
  obtain ⟨c, t, h1, h2, h3, h4, h5, h6⟩ := tv_two k (m := 4 - i) (i := i + 1) (L := ndiff L (2 ^ b)) (by omega) (ndiff_lt hL)
  obtain ⟨c', t', k1, k2, k3, k4, k5, k6⟩ := tv_two k (m := 5 - i) (i := i) (L := L) (by omega) hL
  have := k.ho hb
  rw [h5, h6, k5, k6]
  omega
/-- when no button keeps the best, the need is left out -/
theorem tv_none {s : XM} (k : Ok s) {i L : Nat} (hi : i < 5) (hL : L < 2 ^ nB s) (ho : op s i = true) (h : ∀ b, b < nB s → pc s i L b = false) : tv s 1000 (5 - i) i L = tv s 1000 (4 - i) (i + 1) L := by
  have e5 : 5 - i = (4 - i) + 1 := by omega
  have : tv s 10000 (5 - i) i L = tv s 10000 (4 - i) (i + 1) L := by
    obtain ⟨N, hN⟩ := bitsN (i + 1) k
    have h0 := (tv_B (C := 10000) k (4 - i) (i + 1) L N (by omega) hL hN).pos
    have hp := mxF_p (g := fun b => if L.testBit b = true ∧ s 4 i ≤ sHo s b then 10000 - sHo s b + tv s 10000 (4 - i) (i + 1) (ndiff L (2 ^ b)) else 0) (v := tv s 10000 (4 - i) (i + 1) L) (nB s)
    have e : tv s 10000 (5 - i) i L = mxF (fun b => if L.testBit b = true ∧ s 4 i ≤ sHo s b then 10000 - sHo s b + tv s 10000 (4 - i) (i + 1) (ndiff L (2 ^ b)) else 0) (tv s 10000 (4 - i) (i + 1) L) (nB s) := by
      rw [e5]
      show (if op s i = true then _ else _) = _
      rw [if_pos ho]
    rw [← e] at hp
    rcases hp.2.2 with e1 | ⟨b, hb, e1⟩
    · exact e1
    · by_cases d : L.testBit b = true ∧ s 4 i ≤ sHo s b
      · rw [if_pos d] at e1
        have := h b hb
        rw [pc_t.2 ⟨d.1, d.2, e1.symm⟩] at this
        cases this
      · rw [if_neg d] at e1
        have := hp.1
        omega
  obtain ⟨c, t, h1, h2, h3, h4, h5, h6⟩ := tv_two k (m := 4 - i) (i := i + 1) (L := L) (by omega) hL
  obtain ⟨c', t', k1, k2, k3, k4, k5, k6⟩ := tv_two k (m := 5 - i) (i := i) (L := L) (by omega) hL
  omega
theorem chq_no {s : XM} {i : Nat} (h : nN s ≤ i) : chq s i = -1 := by
  unfold chq cho
  exact if_neg fun c => by have := op_lt c; omega
theorem cnq_b {s : XM} : ∀ n : Nat, 0 ≤ cnq s n ∧ cnq s n ≤ n
  | 0 => ⟨Int.le_refl _, Int.le_refl _⟩
  | n + 1 => by
    have := cnq_b (s := s) n
    unfold cnq
    split <;> omega
theorem smq_b {s : XM} (k : Ok s) : ∀ n : Nat, 0 ≤ smq s n ∧ smq s n ≤ 45 * n
  | 0 => ⟨Int.le_refl _, Int.le_refl _⟩
  | n + 1 => by
    have := smq_b k n
    unfold smq
    rcases chq_p (s := s) n with e | ⟨b, e, hb, _⟩
    · rw [if_pos e]; omega
    · rw [if_neg (by omega), e, Int.toNat_natCast]
      have := k.ho hb
      omega
theorem cnq_st {s : XM} : ∀ n : Nat, nN s ≤ n → cnq s n = cnq s (nN s) ∧ smq s n = smq s (nN s)
  | 0, h => by rw [show nN s = 0 by omega]; exact ⟨rfl, rfl⟩
  | n + 1, h => by
    by_cases c : nN s = n + 1
    · rw [c]; exact ⟨rfl, rfl⟩
    · have := cnq_st (s := s) n (by omega)
      have e := chq_no (s := s) (i := n) (by omega)
      refine ⟨?_, ?_⟩
      · show cnq s n + (if chq s n = -1 then 0 else 1) = _
        rw [if_pos e]; omega
      · show smq s n + (if chq s n = -1 then 0 else sHo s (chq s n).toNat) = _
        rw [if_pos e]; omega
