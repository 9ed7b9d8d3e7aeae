/-! ===== match, the class ===== -/
def Sc (x y : XM) : Prop := ∀ k, k ≠ 69 → k ≠ 70 → k ≠ 71 → y k = x k
theorem Sc.cf {s x y : XM} (e : Sc x y) (h : CF s x) : CF s y := h.scr fun k h1 h2 => e k (by omega) (by omega) (by omega)
def W69 (s y : XM) : Prop := ∀ b, b < nB s → y 69 b = sHo s b
def W70 (s y : XM) : Prop := ∀ i, i < nN s → y 70 i = s 4 i
theorem c_rw36 {s x : XM} {q : XM → Prop} (h : CF s x) (k : Ok s) (hq : ∀ y, Sc x y → W69 s y → W70 s y → q y) (n : Nat) : ∀ (i : Nat) (y : XM), i ≤ nN s → nN s < i + n → Sc x y → W69 s y → (∀ j, j < i → y 70 j = s 4 j) → M_X6_readWeights_36 q n y (i : Int) := by
  have hw := k.w
  induction n with
  | zero => intro i y a1 a2; omega
  | succ n ih =>
    intro i y a1 a2 e h69 h70
    unfold M_X6_readWeights_36
    refine c_count4 (e.cf h) ⟨fun c => hq y e h69 fun j hj => h70 j (by omega), fun c => c_val4 (e.cf h) k (by omega) ⟨⟨by omega, by omega⟩, fun z ez => ⟨rg1 (by omega), ih (i + 1) z (by omega) (by omega) (fun k h1 h2 h3 => by rw [ez, uX_k h2]; exact e k h1 h2 h3) (fun b hb => by rw [ez, uX_k (by decide)]; exact h69 b hb) fun j hj => ?_⟩⟩⟩
    rw [ez, Int.toNat_natCast, uX_at]
    by_cases d : j = i
    · rw [if_pos d, d]
    · rw [if_neg d]; exact h70 j (by omega)
theorem c_rw2 {s x : XM} {q : XM → Prop} (h : CF s x) (k : Ok s) (hq : ∀ y, Sc x y → W69 s y → W70 s y → q y) (n : Nat) : ∀ (i : Nat) (y : XM), i ≤ nB s → nB s < i + n → Sc x y → (∀ j, j < i → y 69 j = sHo s j) → M_X6_readWeights_2 q n y (i : Int) := by
  have hn := k.n
  induction n with
  | zero => intro i y a1 a2; omega
  | succ n ih =>
    intro i y a1 a2 e h69
    unfold M_X6_readWeights_2
    refine c_count1 (e.cf h) ⟨fun c => ⟨nN s + 1, c_rw36 h k hq (nN s + 1) 0 y (by omega) (by omega) e (fun b hb => h69 b (by omega)) (fun j hj => by omega)⟩, fun c => c_holds (e.cf h) k (by omega) ⟨⟨by omega, by omega⟩, fun z ez => ⟨rg1 (by omega), ih (i + 1) z (by omega) (by omega) (fun k h1 h2 h3 => by rw [ez, uX_k h1]; exact e k h1 h2 h3) fun j hj => ?_⟩⟩⟩
    rw [ez, Int.toNat_natCast, uX_at]
    by_cases d : j = i
    · rw [if_pos d, d]
    · rw [if_neg d]; exact h69 j (by omega)
theorem c_readW {s x : XM} {q : XM → Prop} (h : CF s x) (k : Ok s) (hq : ∀ y, Sc x y → W69 s y → W70 s y → q y) : M_X6_readWeights x q := ⟨nB s + 1, c_rw2 h k hq (nB s + 1) 0 x (by omega) (by omega) (fun _ _ _ _ => rfl) (fun j hj => by omega)⟩
theorem c_open_4 {s y : XM} {q : Int → Prop} (h : CF s y) (k : Ok s) (hq : q ((bts (op s) (nN s) : Nat) : Int)) (n : Nat) : ∀ i : Nat, i ≤ nN s → nN s < i + n → M_X6_openNeeds_4 q y n ((bts (op s) i : Nat) : Int) (i : Int) := by
  have hw := k.w
  induction n with
  | zero => intro i a1 a2; omega
  | succ n ih =>
    intro i a1 a2
    unfold M_X6_openNeeds_4
    have ih := ih (i + 1)
    refine c_count4 h ⟨fun c => by rw [show i = nN s by omega]; exact hq, fun c => c_sewnTo h k ⟨by omega, by omega⟩ ⟨fun d => ⟨rg1 (by omega), ?_⟩, fun d => ⟨rg1 (by omega), ?_⟩⟩⟩
    · have e : op s i = false := by unfold op; rw [decide_eq_false d, Bool.and_false]
      rw [bts_no e] at ih
      exact ih (by omega) (by omega)
    · have e : op s i = true := by unfold op; rw [decide_eq_true d, decide_eq_true (show i < nN s by omega)]; rfl
      rw [bts_add (by omega) e]
      exact ih (by omega) (by omega)
theorem c_open {s y : XM} {q : Int → Prop} (h : CF s y) (k : Ok s) (hq : ∀ N : Nat, NB s 0 N → q (N : Int)) : M_X6_openNeeds y q := by
  refine ⟨nN s + 1, c_open_4 h k (hq _ fun j => ?_) (nN s + 1) 0 (by omega) (by omega)⟩
  rw [bts_bit]
  cases e : op s j
  · simp
  · rw [decide_eq_true (op_lt e)]; simp
theorem c_least_9 {s y : XM} {N : Nat} {q : Int → Prop} (k : Ok s) (h70 : W70 s y) (hN : N < 2 ^ 31) (hb : ∀ j, N.testBit j = true → j < nN s) (hq : ∀ i : Nat, N.testBit i = true → (∀ j, N.testBit j = true → s 4 i ≤ s 4 j) → q (i : Int)) (n : Nat) : ∀ j i : Nat, j ≤ 5 → 5 < j + n → N.testBit i = true → (∀ c, c < j → N.testBit c = true → s 4 i ≤ s 4 c) → M_X6_leastNeed_9 q y n (N : Int) (i : Int) (j : Int) := by
  have hw := k.w
  induction n with
  | zero => intro j i a1 a2; omega
  | succ n ih =>
    intro j i a1 a2 hi hm
    unfold M_X6_leastNeed_9
    refine ⟨fun c => hq i hi fun c' hc' => hm c' (by have := hb c' hc'; omega) hc', fun c => s_has10 hN (by omega) ?_⟩
    by_cases d : N.testBit j = true
    · rw [if_pos d]
      have e1 := h70 i (hb i hi)
      have e2 := h70 j (hb j d)
      have := hb i hi
      refine iF (by decide) ⟨⟨by omega, by omega⟩, ⟨by omega, by omega⟩, ?_⟩
      rw [Int.toNat_natCast, Int.toNat_natCast, e1, e2]
      refine ⟨fun f => ⟨rg1 (by omega), ih (j + 1) i (by omega) (by omega) hi fun c hc hs => ?_⟩, fun f => ⟨rg1 (by omega), ih (j + 1) j (by omega) (by omega) d fun c hc hs => ?_⟩⟩
      · by_cases g : c = j
        · rw [g]; exact f
        · exact hm c (by omega) hs
      · by_cases g : c = j
        · rw [g]; exact Int.le_refl _
        · have := hm c (by omega) hs
          omega
    · rw [if_neg d]
      refine iT rfl ⟨rg1 (by omega), ih (j + 1) i (by omega) (by omega) hi fun c hc hs => ?_⟩
      by_cases g : c = j
      · rw [g] at hs; exact absurd hs d
      · exact hm c (by omega) hs
theorem c_least {s y : XM} {N : Nat} {q : Int → Prop} (k : Ok s) (h70 : W70 s y) (h0 : 0 < N) (hb : ∀ j, N.testBit j = true → j < nN s) (hq : ∀ i : Nat, N.testBit i = true → (∀ j, N.testBit j = true → s 4 i ≤ s 4 j) → q (i : Int)) : M_X6_leastNeed y (N : Int) q := by
  have hw := k.w
  have h5 := lt_5 (N := N) fun j hj => by have := hb j hj; omega
  have hp := ctz_p N (by omega) h0
  have hl := hb _ hp.1
  refine s_ntz h0 (by omega) ⟨rg1 (by omega), 6, c_least_9 k h70 (by omega) hb hq 6 (ctz N 12 + 1) (ctz N 12) (by omega) (by omega) hp.1 fun c hc hs => ?_⟩
  by_cases f : c = ctz N 12
  · rw [f]; exact Int.le_refl _
  · rw [hp.2 c (by omega)] at hs
    cases hs
theorem c_weak_5 {s y : XM} {L i : Nat} {q : Int → Prop} (h : CF s y) (k : Ok s) (h69 : W69 s y) (h70 : W70 s y) (hi : i < nN s) (hL : L < 2 ^ 31) (hq0 : (∀ b, b < nB s → L.testBit b = true → ¬ s 4 i ≤ sHo s b) → q (-1)) (hq1 : ∀ b : Nat, b < nB s → L.testBit b = true → s 4 i ≤ sHo s b → (∀ c, c < nB s → L.testBit c = true → s 4 i ≤ sHo s c → sHo s b ≤ sHo s c) → q (b : Int)) (n : Nat) : ∀ (b : Nat) (v : Int), b ≤ nB s → nB s < b + n → ((v = -1 ∧ ∀ c, c < b → L.testBit c = true → ¬ s 4 i ≤ sHo s c) ∨ ∃ a : Nat, v = (a : Int) ∧ a < nB s ∧ L.testBit a = true ∧ s 4 i ≤ sHo s a ∧ ∀ c, c < b → L.testBit c = true → s 4 i ≤ sHo s c → sHo s a ≤ sHo s c) → M_X6_weakestFor_5 q y n (i : Int) (L : Int) v (b : Int) := by
  have hn := k.n
  have hw := k.w
  induction n with
  | zero => intro b v a1 a2; omega
  | succ n ih =>
    intro b v a1 a2 hv
    unfold M_X6_weakestFor_5
    refine c_count1 h ⟨fun c => ?_, fun c => s_has10 hL (by omega) ?_⟩
    · rcases hv with ⟨e, hv⟩ | ⟨a, e, h1, h2, h3, h4⟩
      · rw [e]; exact hq0 fun b' hb' => hv b' (by omega)
      · rw [e]; exact hq1 a h1 h2 h3 fun c' hc' => h4 c' (by omega)
    · have skip : (L.testBit b = true → s 4 i ≤ sHo s b → ∃ a : Nat, v = (a : Int) ∧ sHo s a ≤ sHo s b) → M_X6_weakestFor_5 q y n (i : Int) (L : Int) v ((b : Int) + 1) := fun hs =>
        ih (b + 1) v (by omega) (by omega) (by
          rcases hv with ⟨e, hv⟩ | ⟨a, e, h1, h2, h3, h4⟩
          · refine Or.inl ⟨e, fun c' hc' hb' hm => ?_⟩
            by_cases d : c' = b
            · rw [d] at hm hb'
              obtain ⟨a, e2, _⟩ := hs hb' hm
              omega
            · exact hv c' (by omega) hb' hm
          · refine Or.inr ⟨a, e, h1, h2, h3, fun c' hc' hb' hm => ?_⟩
            by_cases d : c' = b
            · rw [d] at hm hb' ⊢
              obtain ⟨a2, e2, h5⟩ := hs hb' hm
              rw [show a = a2 by omega]
              exact h5
            · exact h4 c' (by omega) hb' hm)
      by_cases d : L.testBit b = true
      · rw [if_pos d]
        refine iF (by decide) ⟨⟨by omega, by omega⟩, ⟨by omega, by omega⟩, ?_⟩
        rw [Int.toNat_natCast, Int.toNat_natCast, h69 b (by omega), h70 i hi]
        refine ⟨fun f => ⟨rg1 (by omega), skip fun _ g => by omega⟩, fun f => ⟨fun g => ⟨rg1 (by omega), ih (b + 1) (b : Int) (by omega) (by omega) (Or.inr ⟨b, rfl, by omega, d, by omega, fun c' hc' hb' hm => ?_⟩)⟩, fun g => ?_⟩⟩
        · by_cases e : c' = b
          · rw [e]; exact Int.le_refl _
          · rcases hv with ⟨_, hv⟩ | ⟨a, e, _⟩
            · exact absurd hm (hv c' (by omega) hb')
            · omega
        · rcases hv with ⟨e, hv⟩ | ⟨a, e, h1, h2, h3, h4⟩
          · exact absurd e g
          · rw [e, Int.toNat_natCast, h69 a h1, ← e]
            refine ⟨⟨by omega, by omega⟩, ⟨by omega, by omega⟩, fun f2 => ⟨rg1 (by omega), skip fun _ _ => ⟨a, e, f2⟩⟩, fun f2 => ⟨rg1 (by omega), ih (b + 1) (b : Int) (by omega) (by omega) (Or.inr ⟨b, rfl, by omega, d, by omega, fun c' hc' hb' hm => ?_⟩)⟩⟩
            by_cases e2 : c' = b
            · rw [e2]; exact Int.le_refl _
            · have := h4 c' (by omega) hb' hm
              omega
      · rw [if_neg d]
        exact iT rfl ⟨rg1 (by omega), skip fun g => absurd g d⟩
theorem c_weak {s y : XM} {L i : Nat} {q : Int → Prop} (h : CF s y) (k : Ok s) (h69 : W69 s y) (h70 : W70 s y) (hi : i < nN s) (hL : L < 2 ^ 31) (hq0 : (∀ b, b < nB s → L.testBit b = true → ¬ s 4 i ≤ sHo s b) → q (-1)) (hq1 : ∀ b : Nat, b < nB s → L.testBit b = true → s 4 i ≤ sHo s b → (∀ c, c < nB s → L.testBit c = true → s 4 i ≤ sHo s c → sHo s b ≤ sHo s c) → q (b : Int)) : M_X6_weakestFor y (i : Int) (L : Int) q := ⟨nB s + 1, c_weak_5 h k h69 h70 hi hL hq0 hq1 (nB s + 1) 0 (-1) (by omega) (by omega) (Or.inl ⟨rfl, fun c hc => by omega⟩)⟩
theorem pcn_no {N : Nat} : ∀ n, pcn N n = 0 → ∀ j, j < n → N.testBit j = false
  | 0, _, j, hj => by omega
  | n + 1, h, j, hj => by
    unfold pcn at h
    cases e : N.testBit n
    · by_cases c : j = n
      · rw [c]; exact e
      · exact pcn_no n (by omega) j (by omega)
    · rw [e] at h
      simp at h
theorem c_best_11 {s y : XM} {q : Int → Prop} (h : CF s y) (k : Ok s) (h69 : W69 s y) (h70 : W70 s y) (n : Nat) : ∀ (acc : Int) (L N st : Nat), L < 2 ^ nB s → (∀ j, N.testBit j = true → j < nN s) → st ≤ 5 → 5 < st + n → pcn N 5 + st ≤ 5 → 0 ≤ acc → acc ≤ 1000 * st → (∀ v, Best 1000 (sHo s) (s 4) L N v → q (acc + v)) → M_X6_bestWorth_11 q y n acc (L : Int) (N : Int) (st : Int) := by
  have hn := k.n
  have hw := k.w
  have h12 := pow12 hn.2
  induction n with
  | zero => intro acc L N st _ _ a1 a2; omega
  | succ n ih =>
    intro acc L N st hL hb a1 a2 a3 a4 a5 hq
    have h5 := lt_5 (N := N) fun j hj => by have := hb j hj; omega
    have nil : (∀ j b, N.testBit j = true → L.testBit b = true → ¬ s 4 j ≤ sHo s b) → q acc := fun g => by
      have := hq 0 (Best.nil g)
      rw [Int.add_zero] at this
      exact this
    unfold M_X6_bestWorth_11
    refine ⟨fun c => nil fun j b hj _ => ?_, fun c => ⟨fun d => nil fun j b hj _ => ?_, fun d => c_least k h70 (by omega) hb fun i hi hmin => c_weak h k h69 h70 (hb i hi) (by omega) (fun hno => ?_) (fun b hbn hLb hwb hwk => ?_)⟩⟩
    · rw [pcn_no 5 (by omega) j (by have := hb j hj; omega)] at hj
      cases hj
    · rw [show N = 0 by omega, Nat.zero_testBit] at hj
      cases hj
    · refine jF rfl (nil fun j b hj hLb hwb => hno b (bit_lt hL hLb) hLb (Int.le_trans (hmin j hj) hwb))
    · have hi5 := bit_lt h5 hi
      have ho := k.ho hbn
      refine jT (by omega) ⟨⟨by omega, by omega⟩, ?_⟩
      rw [Int.toNat_natCast, h69 b hbn, jshl_1 b (by omega), jshl_1 i (by omega), jdiff_n (by omega), jdiff_n (by omega)]
      have hpc := pcn_one (S := N) (T := ndiff N (2 ^ i)) hi (by
        cases e : (ndiff N (2 ^ i)).testBit i
        · rfl
        · exact absurd rfl (nd1.1 e).2) (fun c hc => by
        cases e : N.testBit c
        · rw [ndiff_bit, e]; rfl
        · exact (nd1.2 ⟨e, hc⟩).symm) 5
      rw [if_pos hi5] at hpc
      refine ⟨⟨by omega, by omega⟩, rg1 (by omega), ih _ _ _ (st + 1) (ndiff_lt hL) (fun j hj => hb j (nd1.1 hj).1) (by omega) (by omega) (by omega) (by omega) (by omega) fun v hv => ?_⟩
      have := hq _ (hv.weak h5 hi hLb hwb (fun c hc => hwk c (bit_lt hL hc) hc) (by omega))
      rw [show acc + (1000 - sHo s b) + v = acc + (1000 - sHo s b + v) by omega]
      exact this
theorem pcn_5 (N : Nat) : pcn N 5 ≤ 5 := pcn_le N 5
theorem c_best {s y : XM} {q : Int → Prop} {i L N : Nat} (h : CF s y) (k : Ok s) (h69 : W69 s y) (h70 : W70 s y) (hi : i ≤ 5) (hL : L < 2 ^ nB s) (hN : NB s i N) (hq : q (tv s 1000 (5 - i) i L)) : M_X6_bestWorth y (L : Int) (N : Int) q :=
  ⟨6, c_best_11 h k h69 h70 6 0 L N 0 hL (fun j hj => (hN.bit hj).2.2) (by omega) (by omega) (pcn_5 N) (by omega) (by omega) fun v hv => by
    rw [hv.uniq (tv_B k (5 - i) i L N (by omega) hL hN), Int.zero_add]
    exact hq⟩
theorem c_first_3 {s y : XM} {q : Int → Prop} {i L N : Nat} (h : CF s y) (k : Ok s) (h69 : W69 s y) (h70 : W70 s y) (hi : i < nN s) (hL : L < 2 ^ nB s) (hN : NB s (i + 1) N) (n : Nat) : ∀ b : Nat, b ≤ nB s → nB s < b + n → q (fs (pc s i L) (nB s - b) b) → M_X6_firstChoice_3 q y n (i : Int) (L : Int) (N : Int) (tv s 1000 (5 - i) i L) (b : Int) := by
  have hn := k.n
  have hw := k.w
  have h12 := pow12 hn.2
  induction n with
  | zero => intro b a1 a2; omega
  | succ n ih =>
    intro b a1 a2 hq
    unfold M_X6_firstChoice_3
    refine c_count1 h ⟨fun c => ?_, fun c => s_has10 (by omega) (by omega) ?_⟩
    · rw [show nB s - b = 0 by omega] at hq
      exact hq
    · rw [show nB s - b = (nB s - (b + 1)) + 1 by omega] at hq
      unfold fs at hq
      have skip : ¬ pc s i L b = true → M_X6_firstChoice_3 q y n (i : Int) (L : Int) (N : Int) (tv s 1000 (5 - i) i L) ((b : Int) + 1) := fun hp => by
        rw [if_neg hp] at hq
        exact ih (b + 1) (by omega) (by omega) hq
      by_cases d : L.testBit b = true
      · rw [if_pos d]
        refine iF (by decide) ⟨⟨by omega, by omega⟩, ⟨by omega, by omega⟩, ?_⟩
        rw [Int.toNat_natCast, Int.toNat_natCast, h69 b (by omega), h70 i hi, jshl_1 b (by omega), jdiff_n (by omega)]
        have hp := pc_1000 k (i := i) (L := L) (b := b) (by omega) hL (by omega)
        obtain ⟨c', t', k1, k2, k3, k4, k5, k6⟩ := tv_two k (m := 4 - i) (i := i + 1) (L := ndiff L (2 ^ b)) (by omega) (ndiff_lt hL)
        have ho := k.ho (b := b) (by omega)
        refine ⟨fun f => ⟨rg1 (by omega), skip fun g => ?_⟩, fun f => ⟨⟨by omega, by omega⟩, c_best (i := i + 1) h k h69 h70 (by omega) (ndiff_lt hL) hN ?_⟩⟩
        · have := (pc_t.1 g).2.1
          omega
        · rw [show 5 - (i + 1) = 4 - i by omega]
          refine ⟨⟨by omega, by omega⟩, fun g => ⟨rg1 (by omega), skip fun g2 => g (hp.2 (pc_t.1 g2).2.2)⟩, fun g => ?_⟩
          rw [if_pos (pc_t.2 ⟨d, by omega, hp.1 g⟩)] at hq
          exact hq
      · rw [if_neg d]
        exact iT rfl ⟨rg1 (by omega), skip fun g => d (pc_t.1 g).1⟩
theorem c_solve_29 {s x : XM} {q : XM → Prop} (h : CF s x) (k : Ok s) (hq : ∀ y, Sc x y → W69 s y → (∀ j, j < 5 → y 71 j = chq s j) → q y) (n : Nat) : ∀ (i N : Nat) (y : XM), i ≤ 5 → 5 < i + n → Sc x y → W69 s y → W70 s y → (∀ j, j < i → y 71 j = chq s j) → NB s i N → M_X6_solve_29 q n y (Lq s i : Int) (N : Int) (tv s 1000 (5 - i) i (Lq s i)) (i : Int) := by
  have hn := k.n
  have hw := k.w
  have h12 := pow12 hn.2
  induction n with
  | zero => intro i N y a1 a2; omega
  | succ n ih =>
    intro i N y a1 a2 e h69 h70 h71 hN
    have h5 := lt_5 (N := N) fun j hj => by have := (hN.bit hj).2.2; omega
    have hl := Lq_lt (s := s) i
    unfold M_X6_solve_29
    refine ⟨fun c => hq y e h69 fun j hj => h71 j (by omega), fun c => ⟨⟨by omega, by omega⟩, fun x7 e7 => s_has10 (by omega) (by omega) ?_⟩⟩
    rw [Int.toNat_natCast] at e7
    have f7 : Sc x x7 := fun k h1 h2 h3 => by rw [e7, uX_k h3]; exact e k h1 h2 h3
    have g69 : W69 s x7 := fun b hb => by rw [e7, uX_k (by decide)]; exact h69 b hb
    have g70 : W70 s x7 := fun b hb => by rw [e7, uX_k (by decide)]; exact h70 b hb
    have eN : N.testBit i = op s i := by rw [hN i]; simp
    rw [eN]
    by_cases d : op s i = true
    · rw [if_pos d]
      refine iF (by decide) ?_
      rw [jshl_1 i (by omega), jdiff_n (by omega)]
      have hc : chq s i = fs (pc s i (Lq s i)) (nB s) 0 := if_pos d
      refine ⟨nB s + 1, c_first_3 (f7.cf h) k g69 g70 (op_lt d) hl hN.on (nB s + 1) 0 (by omega) (by omega) ?_⟩
      rw [Nat.sub_zero, ← hc]
      refine ⟨⟨by omega, by omega⟩, fun z ez => ?_⟩
      rw [Int.toNat_natCast] at ez
      have fz : Sc x z := fun k h1 h2 h3 => by rw [ez, uX_k h3]; exact f7 k h1 h2 h3
      have z69 : W69 s z := fun b hb => by rw [ez, uX_k (by decide)]; exact g69 b hb
      have z70 : W70 s z := fun b hb => by rw [ez, uX_k (by decide)]; exact g70 b hb
      have z71 : ∀ j, j < i + 1 → z 71 j = chq s j := fun j hj => by
        rw [ez, uX_at]
        by_cases g : j = i
        · rw [if_pos g, g]
        · rw [if_neg g, e7, uX_j g]; exact h71 j (by omega)
      have step := ih (i + 1) (ndiff N (2 ^ i)) z (by omega) (by omega) fz z69 z70 z71 hN.on
      rw [show 5 - (i + 1) = 4 - i by omega] at step
      rcases fs_p (p := pc s i (Lq s i)) (nB s) 0 with ⟨e1, h1⟩ | ⟨b, e1, h1, h2, h3⟩
      · rw [← hc] at e1
        refine iT e1 ⟨rg1 (by omega), ?_⟩
        rw [Lq_no e1, ← tv_none k (by omega) hl d (fun b hb => h1 b (by omega) (by omega))] at step
        exact step
      · rw [← hc] at e1
        rw [e1]
        have hp := (pc_1000 k (i := i) (L := Lq s i) (b := b) (by omega) hl (by omega)).2 (pc_t.1 h3).2.2
        obtain ⟨c', t', k1, k2, k3, k4, k5, k6⟩ := tv_two k (m := 5 - i) (i := i) (L := Lq s i) (by omega) hl
        have ho := k.ho (b := b) (by omega)
        refine iF (by omega) ⟨⟨by omega, by omega⟩, ?_⟩
        rw [Int.toNat_natCast, z69 b (by omega), jshl_1 b (by omega), jdiff_n (by omega)]
        refine ⟨⟨by omega, by omega⟩, rg1 (by omega), ?_⟩
        rw [Lq_on e1] at step
        rw [show tv s 1000 (5 - i) i (Lq s i) - (1000 - sHo s b) = tv s 1000 (4 - i) (i + 1) (ndiff (Lq s i) (2 ^ b)) by omega]
        exact step
    · rw [if_neg d]
      have hc : chq s i = -1 := if_neg d
      have z71 : ∀ j, j < i + 1 → x7 71 j = chq s j := fun j hj => by
        rw [e7, uX_at]
        by_cases g : j = i
        · rw [if_pos g, g, hc]
        · rw [if_neg g]; exact h71 j (by omega)
      have step := ih (i + 1) N x7 (by omega) (by omega) f7 g69 g70 z71 (hN.no d)
      have et : tv s 1000 (5 - i) i (Lq s i) = tv s 1000 (5 - (i + 1)) (i + 1) (Lq s i) := by
        rw [show 5 - i = (5 - (i + 1)) + 1 by omega]
        show (if op s i = true then _ else _) = _
        rw [if_neg d]
      rw [Lq_no hc, ← et] at step
      exact iT rfl ⟨rg1 (by omega), step⟩
theorem c_solve {s x : XM} {q : XM → Prop} (h : CF s x) (k : Ok s) (hq : ∀ y, Sc x y → W69 s y → (∀ j, j < 5 → y 71 j = chq s j) → q y) : M_X6_solve x q := by
  refine c_readW h k fun y e h69 h70 => c_at (e.cf h) k ⟨by omega, by omega⟩ (c_open (e.cf h) k fun N hN => ?_)
  show M_X6_bestWorth y ((Lq s 0 : Nat) : Int) (N : Int) _
  exact c_best (i := 0) (e.cf h) k h69 h70 (by omega) (Lq_lt 0) hN ⟨6, c_solve_29 h k hq 6 0 N y (by omega) (by omega) e h69 h70 (fun j hj => by omega) hN⟩
theorem c_many_4 {s y : XM} {q : Int → Prop} (h71 : ∀ j, j < 5 → y 71 j = chq s j) (hq : q (cnq s 5)) (n : Nat) : ∀ i : Nat, i ≤ 5 → 5 < i + n → M_X6_howMany_4 q y n (cnq s i) (i : Int) := by
  induction n with
  | zero => intro i a1 a2; omega
  | succ n ih =>
    intro i a1 a2
    unfold M_X6_howMany_4
    have hb := cnq_b (s := s) i
    refine ⟨fun c => by rw [show i = 5 by omega]; exact hq, fun c => ⟨⟨by omega, by omega⟩, ?_⟩⟩
    have step := ih (i + 1)
    rw [show cnq s (i + 1) = cnq s i + (if chq s i = -1 then 0 else 1) from rfl] at step
    rw [Int.toNat_natCast, h71 i (by omega)]
    refine ⟨fun d => ?_, fun d => ?_⟩
    · rw [if_neg d] at step
      exact ⟨⟨by omega, by omega⟩, rg1 (by omega), step (by omega) (by omega)⟩
    · rw [if_pos d] at step
      exact ⟨⟨by omega, by omega⟩, rg1 (by omega), step (by omega) (by omega)⟩
theorem c_much_4 {s y : XM} {q : Int → Prop} (k : Ok s) (h69 : W69 s y) (h71 : ∀ j, j < 5 → y 71 j = chq s j) (hq : q (smq s 5)) (n : Nat) : ∀ i : Nat, i ≤ 5 → 5 < i + n → M_X6_howMuch_4 q y n (smq s i) (i : Int) := by
  have hn := k.n
  induction n with
  | zero => intro i a1 a2; omega
  | succ n ih =>
    intro i a1 a2
    unfold M_X6_howMuch_4
    have hb := smq_b k i
    refine ⟨fun c => by rw [show i = 5 by omega]; exact hq, fun c => ⟨⟨by omega, by omega⟩, ?_⟩⟩
    have step := ih (i + 1)
    rw [show smq s (i + 1) = smq s i + (if chq s i = -1 then 0 else sHo s (chq s i).toNat) from rfl] at step
    rw [Int.toNat_natCast, h71 i (by omega)]
    rcases chq_p (s := s) i with e | ⟨b, e, hbn, _⟩
    · rw [if_pos e] at step
      exact jF e ⟨⟨by omega, by omega⟩, rg1 (by omega), step (by omega) (by omega)⟩
    · rw [if_neg (by omega)] at step
      rw [e, Int.toNat_natCast] at step
      rw [e, Int.toNat_natCast, h69 b hbn]
      have ho := k.ho hbn
      exact jT (by omega) ⟨⟨by omega, by omega⟩, ⟨by omega, by omega⟩, ⟨by omega, by omega⟩, rg1 (by omega), step (by omega) (by omega)⟩
theorem C_match {s x : XM} {v : Int} {q : Int → XM → Prop} (h : CF s x) (k : Ok s) (hq : ∀ y, CF s y → Fr x y → q (sMat s v) y) : M_X10_match x v q := by
  have hw := k.w
  have go : (v = -1 ∨ v = -2 ∨ (0 ≤ v ∧ v < s 0 3)) → M_X10_match_23 q x v := fun hv => by
    refine c_solve h k fun y e h69 h71 => ?_
    have hqy := hq y (e.cf h) fun k hk => e k (by omega) (by omega) (by omega)
    unfold sMat at hqy
    refine ⟨fun c => ⟨fun d => ?_, fun d => ?_⟩, fun c => ?_⟩
    · rw [if_neg c, if_neg d, if_pos (by omega)] at hqy
      rw [h71 v.toNat (by omega)]
      exact ⟨⟨by omega, by omega⟩, hqy⟩
    · rw [if_neg c, if_pos d] at hqy
      exact ⟨6, c_much_4 k h69 h71 hqy 6 0 (by omega) (by omega)⟩
    · rw [if_pos c] at hqy
      exact ⟨6, c_many_4 h71 hqy 6 0 (by omega) (by omega)⟩
  refine ⟨fun c => go (Or.inl c), fun c => ⟨fun d => go (Or.inr (Or.inl d)), fun d => c_is4 h ?_⟩⟩
  have hqx := hq x h fun _ _ => rfl
  unfold sMat at hqx
  rw [if_neg c, if_neg d] at hqx
  unfold isN
  by_cases f : 0 ≤ v ∧ v < s 0 3
  · rw [if_pos f]
    exact jT (by decide) (go (Or.inr (Or.inr f)))
  · rw [if_neg f] at hqx ⊢
    exact jF rfl hqx
