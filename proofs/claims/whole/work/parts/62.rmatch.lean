/-! ===== match, the reference ===== -/
def Rs (x y : XM) : Prop := ∀ k, k ≠ 100 → y k = x k
theorem Rs.rf {s x y : XM} (e : Rs x y) (h : RF s x) : RF s y := h.scr (fun k h1 h2 h3 => e k (by omega)) (fun j hj => by rw [e 83 (by decide)])
theorem tv_0 {s : XM} {C : Int} : ∀ m i L, nN s ≤ i → tv s C m i L = 0
  | 0, i, L, _ => rfl
  | m + 1, i, L, h => by
    unfold tv
    rw [if_neg (fun c => by have := op_lt c; omega)]
    exact tv_0 m (i + 1) L (by omega)
def Tb (s y : XM) (i : Nat) : Prop := ∀ j, i ≤ j → j ≤ nN s → ∀ U, U < 2 ^ nB s → y 100 (4096 * j + U) = tv s 10000 (5 - j) j (ndiff (sSt s 0) U)
theorem op_i {s : XM} {i : Nat} (hi : i < nN s) : op s i = true ↔ sSw s (8 + (i : Int)) = -1 := by
  unfold op
  rw [decide_eq_true hi, Bool.true_and, decide_eq_true_eq]
theorem r_canSew {s y : XM} {b i U : Nat} {q : Int → Prop} (h : RF s y) (k : Ok s) (hb : b < nB s) (hi : i < nN s) (hU : U < 2 ^ 31) (hq : q (if (ndiff (sSt s 0) U).testBit b = true ∧ s 4 i ≤ sHo s b then 1 else 0)) : M_X11_canSew y (b : Int) (i : Int) (U : Int) q := by
  have hn := k.n
  have hw := k.w
  have eb : (ndiff (sSt s 0) U).testBit b = (decide (s 5 b = 0) && !U.testBit b) := by
    rw [ndiff_bit]
    unfold sSt
    rw [bts_bit, decide_eq_true hb, Bool.true_and]
  rw [eb] at hq
  refine ⟨⟨by omega, by omega⟩, ?_⟩
  rw [Int.toNat_natCast, h.nw ⟨by omega, Or.inl (by omega)⟩]
  by_cases c : s 5 b = 0
  · refine jF c (s_has hU (by omega) ?_)
    by_cases d : U.testBit b = true
    · rw [if_pos d]
      rw [d, if_neg (fun g => by simp at g)] at hq
      exact jT (by decide) hq
    · rw [if_neg d]
      refine jF rfl (r_holds h k hb ⟨⟨by omega, by omega⟩, ?_⟩)
      rw [Int.toNat_natCast, h.ne (by omega)]
      have d' : U.testBit b = false := by
        cases e : U.testBit b
        · rfl
        · exact absurd e d
      rw [d', decide_eq_true c] at hq
      refine ⟨fun f => ?_, fun f => ?_⟩
      · rw [if_neg (fun g => by have := g.2; omega)] at hq; exact hq
      · rw [if_pos ⟨rfl, by omega⟩] at hq; exact hq
  · rw [decide_eq_false c, if_neg (fun g => by simp at g)] at hq
    exact jT c hq
theorem r_worthBy {s y : XM} {b i U : Nat} {q : Int → Prop} (h : RF s y) (k : Ok s) (hb : b < nB s) (hi : i < nN s) (hT : Tb s y (i + 1)) (hU : U < 2 ^ nB s) (hq : q (10000 - sHo s b + tv s 10000 (4 - i) (i + 1) (ndiff (ndiff (sSt s 0) U) (2 ^ b)))) : M_X11_worthBy y (b : Int) (i : Int) (U : Int) q := by
  have hn := k.n
  have hw := k.w
  have h12 := pow12 hn.2
  have hp : 2 ^ b < 2 ^ nB s := Nat.pow_lt_pow_right (by decide) hb
  have hW : U ||| 2 ^ b < 2 ^ nB s := Nat.or_lt_two_pow hU hp
  refine r_holds h k hb ?_
  rw [jshl_1 b (by omega), jor_n (by omega) (by omega)]
  have e1 := hT (i + 1) (Nat.le_refl _) (by omega) (U ||| 2 ^ b) hW
  rw [← ndiff_or, show 5 - (i + 1) = 4 - i by omega] at e1
  obtain ⟨c', t', k1, k2, k3, k4, k5, k6⟩ := tv_two k (m := 4 - i) (i := i + 1) (L := ndiff (ndiff (sSt s 0) U) (2 ^ b)) (by omega) (ndiff_lt (ndiff_lt (sSt_lt _)))
  have ho := k.ho hb
  revert e1 hW
  generalize U ||| 2 ^ b = W
  intro hW e1
  rw [show (4096 * ((i : Int) + 1) + (W : Int)).toNat = 4096 * (i + 1) + W by omega, e1]
  exact ⟨⟨by omega, by omega⟩, ⟨by omega, by omega⟩, hq⟩
def gt (s : XM) (i L b : Nat) : Int := if L.testBit b = true ∧ s 4 i ≤ sHo s b then 10000 - sHo s b + tv s 10000 (4 - i) (i + 1) (ndiff L (2 ^ b)) else 0
theorem tv_on {s : XM} {i L : Nat} (hi : i < 5) (ho : op s i = true) : tv s 10000 (5 - i) i L = mxF (gt s i L) (tv s 10000 (4 - i) (i + 1) L) (nB s) := by
  rw [show 5 - i = (4 - i) + 1 by omega]
  show (if op s i = true then _ else _) = _
  rw [if_pos ho]
  rfl
theorem tv_off {s : XM} {i L : Nat} (hi : i < 5) (ho : ¬ op s i = true) : tv s 10000 (5 - i) i L = tv s 10000 (4 - i) (i + 1) L := by
  rw [show 5 - i = (4 - i) + 1 by omega]
  show (if op s i = true then _ else _) = _
  rw [if_neg ho]
theorem r_all137 {s y : XM} {q : XM → Prop} {K41 : XM → Int → Prop} {K47 : XM → Int → Int → Prop} {i U : Nat} (k : Ok s) (hi : i < nN s) (hU : U < 2 ^ nB s) (hK : ∀ z, z = uX y 100 (4096 * i + U) (tv s 10000 (5 - i) i (ndiff (sSt s 0) U)) → K47 z (i : Int) ((U : Int) + 1)) : M_X11_matchAll_137 q K41 K47 y (i : Int) (U : Int) (tv s 10000 (5 - i) i (ndiff (sSt s 0) U)) := by
  have hn := k.n
  have hw := k.w
  have h12 := pow12 hn.2
  refine ⟨⟨by omega, by omega⟩, fun z ez => ⟨rg1 (by omega), hK z ?_⟩⟩
  rw [show (4096 * (i : Int) + (U : Int)).toNat = 4096 * i + U by omega] at ez
  exact ez
theorem r_all75 {s y : XM} {q : XM → Prop} {K41 : XM → Int → Prop} {K47 : XM → Int → Int → Prop} {i U : Nat} (h : RF s y) (k : Ok s) (hi : i < nN s) (hU : U < 2 ^ nB s) (hT : Tb s y (i + 1)) (hK : ∀ z, z = uX y 100 (4096 * i + U) (tv s 10000 (5 - i) i (ndiff (sSt s 0) U)) → K47 z (i : Int) ((U : Int) + 1)) (ho : op s i = true) (n : Nat) : ∀ b : Nat, b ≤ nB s → nB s < b + n → M_X11_matchAll_75 q K41 K47 n y (i : Int) (U : Int) (mxF (gt s i (ndiff (sSt s 0) U)) (tv s 10000 (4 - i) (i + 1) (ndiff (sSt s 0) U)) b) (b : Int) := by
  have hn := k.n
  have hw := k.w
  have h12 := pow12 hn.2
  induction n with
  | zero => intro b a1 a2; omega
  | succ n ih =>
    intro b a1 a2
    unfold M_X11_matchAll_75
    rw [h.n]
    refine ⟨fun c => ?_, fun c => r_sewnTo h k ⟨by omega, by omega⟩ (jF ((op_i hi).1 ho) (r_canSew h k (by omega) hi (by omega) ?_))⟩
    · rw [show b = nB s by omega, ← tv_on (by omega) ho]
      exact r_all137 k hi hU hK
    · have step := ih (b + 1)
      rw [show mxF (gt s i (ndiff (sSt s 0) U)) (tv s 10000 (4 - i) (i + 1) (ndiff (sSt s 0) U)) (b + 1) = if gt s i (ndiff (sSt s 0) U) b ≤ mxF (gt s i (ndiff (sSt s 0) U)) (tv s 10000 (4 - i) (i + 1) (ndiff (sSt s 0) U)) b then mxF (gt s i (ndiff (sSt s 0) U)) (tv s 10000 (4 - i) (i + 1) (ndiff (sSt s 0) U)) b else gt s i (ndiff (sSt s 0) U) b from rfl] at step
      have fin : M_X11_matchAll_116 q K41 K47 (M_X11_matchAll_75 q K41 K47 n) y (i : Int) (U : Int) (mxF (gt s i (ndiff (sSt s 0) U)) (tv s 10000 (4 - i) (i + 1) (ndiff (sSt s 0) U)) b) (b : Int) (gt s i (ndiff (sSt s 0) U) b) := by
        refine ⟨fun d => ⟨rg1 (by omega), ?_⟩, fun d => ⟨rg1 (by omega), ?_⟩⟩
        · rw [if_pos d] at step; exact step (by omega) (by omega)
        · rw [if_neg d] at step; exact step (by omega) (by omega)
      by_cases d : (ndiff (sSt s 0) U).testBit b = true ∧ s 4 i ≤ sHo s b
      · rw [if_pos d]
        have eg : gt s i (ndiff (sSt s 0) U) b = 10000 - sHo s b + tv s 10000 (4 - i) (i + 1) (ndiff (ndiff (sSt s 0) U) (2 ^ b)) := if_pos d
        rw [eg] at fin
        exact iF (by decide) (r_worthBy h k (by omega) hi hT hU fin)
      · rw [if_neg d]
        have eg : gt s i (ndiff (sSt s 0) U) b = 0 := if_neg d
        rw [eg] at fin
        exact iT rfl fin
theorem r_all47 {s x : XM} {q : XM → Prop} {K41 : XM → Int → Prop} {i : Nat} (h : RF s x) (k : Ok s) (hi : i < nN s) (hK : ∀ y, Rs x y → Tb s y i → K41 y ((i : Int) + (-1))) (n : Nat) : ∀ (U : Nat) (y : XM), U ≤ 2 ^ nB s → 2 ^ nB s < U + n → Rs x y → Tb s y (i + 1) → (∀ U', U' < U → y 100 (4096 * i + U') = tv s 10000 (5 - i) i (ndiff (sSt s 0) U')) → M_X11_matchAll_47 q K41 n y (i : Int) (U : Int) := by
  have hn := k.n
  have hw := k.w
  have h12 := pow12 hn.2
  induction n with
  | zero => intro U y a1 a2; omega
  | succ n ih =>
    intro U y a1 a2 e hT hU
    unfold M_X11_matchAll_47
    have hf := e.rf h
    rw [hf.n, hn.1, jshl_1 _ (by omega)]
    refine ⟨fun c => ⟨⟨by omega, by omega⟩, hK y e fun j h1 h2 U' hU' => ?_⟩, fun c => ⟨⟨by omega, by omega⟩, ?_⟩⟩
    · by_cases d : j = i
      · rw [d]; exact hU U' (by omega)
      · exact hT j (by omega) h2 U' hU'
    · have hUl : U < 2 ^ nB s := by omega
      have e1 := hT (i + 1) (Nat.le_refl _) (by omega) U hUl
      rw [show 5 - (i + 1) = 4 - i by omega] at e1
      rw [show (4096 * ((i : Int) + 1) + (U : Int)).toNat = 4096 * (i + 1) + U by omega, e1]
      have next : ∀ z, z = uX y 100 (4096 * i + U) (tv s 10000 (5 - i) i (ndiff (sSt s 0) U)) → M_X11_matchAll_47 q K41 n z (i : Int) ((U : Int) + 1) := fun z ez => by
        refine ih (U + 1) z (by omega) (by omega) (fun k hk => by rw [ez, uX_k hk]; exact e k hk) (fun j h1 h2 U' hU' => ?_) (fun U' hU' => ?_)
        · rw [ez, uX_j (by omega)]; exact hT j h1 h2 U' hU'
        · by_cases d : U' = U
          · rw [d, ez, uX_eq]
          · rw [ez, uX_j (by omega)]; exact hU U' (by omega)
      by_cases ho : op s i = true
      · exact ⟨nB s + 1, r_all75 hf k hi hUl hT next ho (nB s + 1) 0 (by omega) (by omega)⟩
      · refine ⟨1, ?_⟩
        rw [← tv_off (by omega) ho]
        unfold M_X11_matchAll_75
        exact ⟨fun _ => r_all137 k hi hUl next, fun _ => r_sewnTo hf k ⟨by omega, by omega⟩ (jT (fun g => ho ((op_i hi).2 g)) (r_all137 k hi hUl next))⟩
theorem r_all41 {s x : XM} {q : XM → Prop} (h : RF s x) (k : Ok s) (hq : ∀ y, Rs x y → Tb s y 0 → q y) (n : Nat) : ∀ (i : Nat) (y : XM) (v : Int), v = (i : Int) - 1 → i < n → i ≤ nN s → Rs x y → Tb s y i → M_X11_matchAll_41 q n y v := by
  induction n with
  | zero => intro i y v _ a2; omega
  | succ n ih =>
    intro i y v ev a1 a2 e hT
    unfold M_X11_matchAll_41
    refine ⟨fun c => hq y e (by rw [show i = 0 by omega] at hT; exact hT), fun c => ?_⟩
    obtain ⟨j, rfl⟩ : ∃ j, i = j + 1 := ⟨i - 1, by omega⟩
    rw [show v = (j : Int) by omega]
    have hp0 : 0 < 2 ^ nB s := Nat.pow_pos (by decide)
    exact ⟨2 ^ nB s + 1, r_all47 h k (by omega) (fun z ez hz => ih j z _ (by omega) (by omega) (by omega) ez hz) (2 ^ nB s + 1) 0 y (by omega) (by omega) e hT (fun U' hU' => by omega)⟩
theorem r_all2 {s x : XM} {q : XM → Prop} (h : RF s x) (k : Ok s) (hq : ∀ y, Rs x y → Tb s y 0 → q y) (n : Nat) : ∀ (U : Nat) (y : XM), U ≤ 2 ^ nB s → 2 ^ nB s < U + n → Rs x y → (∀ U', U' < U → y 100 (4096 * nN s + U') = 0) → M_X11_matchAll_2 q n y (U : Int) := by
  have hn := k.n
  have hw := k.w
  have h12 := pow12 hn.2
  induction n with
  | zero => intro U y a1 a2; omega
  | succ n ih =>
    intro U y a1 a2 e hU
    unfold M_X11_matchAll_2
    have hf := e.rf h
    rw [hf.n, hf.w, hn.1, hw.1, jshl_1 _ (by omega)]
    refine ⟨fun c => ⟨⟨by omega, by omega⟩, nN s + 1, r_all41 h k hq (nN s + 1) (nN s) y _ rfl (by omega) (by omega) e fun j h1 h2 U' hU' => ?_⟩, fun c => ⟨⟨by omega, by omega⟩, fun z ez => ⟨rg1 (by omega), ih (U + 1) z (by omega) (by omega) (fun k hk => by rw [ez, uX_k hk]; exact e k hk) fun U' hU' => ?_⟩⟩⟩
    · rw [tv_0 _ _ _ h1, show j = nN s by omega]
      exact hU U' (by omega)
    · rw [show (4096 * (nN s : Int) + (U : Int)).toNat = 4096 * nN s + U by omega] at ez
      by_cases d : U' = U
      · rw [d, ez, uX_eq]
      · rw [ez, uX_j (by omega)]; exact hU U' (by omega)
theorem r_of_2 {s y : XM} {q : Int → Prop} {i U : Nat} (h : RF s y) (k : Ok s) (hT : Tb s y 0) (hi : i < nN s) (hU : U < 2 ^ nB s) (hn0 : ¬ op s i = true → q (-1)) (n : Nat) : ∀ b : Nat, b ≤ nB s → nB s < b + n → (op s i = true → q (fs (pc s i (ndiff (sSt s 0) U)) (nB s - b) b)) → M_X11_matchOf_2 q y n (i : Int) (U : Int) (b : Int) := by
  have hn := k.n
  have hw := k.w
  have h12 := pow12 hn.2
  induction n with
  | zero => intro b a1 a2; omega
  | succ n ih =>
    intro b a1 a2 hq
    unfold M_X11_matchOf_2
    rw [h.n]
    by_cases ho : op s i = true
    · have hq := hq ho
      refine ⟨fun c => ?_, fun c => r_sewnTo h k ⟨by omega, by omega⟩ (jF ((op_i hi).1 ho) (r_canSew h k (by omega) hi (by omega) ?_))⟩
      · rw [show nB s - b = 0 by omega] at hq
        exact hq
      · rw [show nB s - b = (nB s - (b + 1)) + 1 by omega] at hq
        unfold fs at hq
        have skip : ¬ pc s i (ndiff (sSt s 0) U) b = true → M_X11_matchOf_2 q y n (i : Int) (U : Int) ((b : Int) + 1) := fun hp => by
          rw [if_neg hp] at hq
          exact ih (b + 1) (by omega) (by omega) fun _ => hq
        by_cases d : (ndiff (sSt s 0) U).testBit b = true ∧ s 4 i ≤ sHo s b
        · rw [if_pos d]
          refine iF (by decide) (r_worthBy h k (by omega) hi (fun j h1 h2 => hT j (by omega) h2) hU ⟨⟨by omega, by omega⟩, ?_⟩)
          have e1 := hT i (by omega) (by omega) U hU
          rw [show (4096 * (i : Int) + (U : Int)).toNat = 4096 * i + U by omega, e1]
          refine ⟨fun f => ⟨rg1 (by omega), skip fun g => f (pc_t.1 g).2.2⟩, fun f => ?_⟩
          rw [if_pos (pc_t.2 ⟨d.1, d.2, f⟩)] at hq
          exact hq
        · rw [if_neg d]
          exact iT rfl ⟨rg1 (by omega), skip fun g => d ⟨(pc_t.1 g).1, (pc_t.1 g).2.1⟩⟩
    · exact ⟨fun _ => hn0 ho, fun _ => r_sewnTo h k ⟨by omega, by omega⟩ (jT (fun g => ho ((op_i hi).2 g)) (hn0 ho))⟩
theorem r_of {s y : XM} {q : Int → Prop} {i U : Nat} (h : RF s y) (k : Ok s) (hT : Tb s y 0) (hi : i < nN s) (hU : U < 2 ^ nB s) (hq : q (cho s i (ndiff (sSt s 0) U))) : M_X11_matchOf y (i : Int) (U : Int) q := by
  unfold cho at hq
  refine ⟨nB s + 1, r_of_2 h k hT hi hU (fun ho => ?_) (nB s + 1) 0 (by omega) (by omega) fun ho => ?_⟩
  · rw [if_neg ho] at hq; exact hq
  · rw [if_pos ho] at hq; exact hq
def w5 (s : XM) (v : Int) (i : Nat) : Int := if 0 ≤ v ∧ v < i then chq s v.toNat else -1
theorem w5_y {s : XM} {v : Int} {i : Nat} (h : (i : Int) = v) : w5 s v (i + 1) = chq s i := by
  unfold w5
  rw [if_pos (by omega), show v.toNat = i by omega]
theorem w5_n {s : XM} {v : Int} {i : Nat} (h : ¬ (i : Int) = v) : w5 s v (i + 1) = w5 s v i := by
  unfold w5
  by_cases c : 0 ≤ v ∧ v < i
  · rw [if_pos (by omega), if_pos c]
  · rw [if_neg (by omega), if_neg c]
theorem r_match35 {s y : XM} {v : Int} {q : Int → XM → Prop} (h : RF s y) (k : Ok s) (hT : Tb s y 0) (hv : -2 ≤ v ∧ v < nN s) (hq : q (sMat s v) y) (n : Nat) : ∀ i U : Nat, i ≤ nN s → nN s < i + n → U < 2 ^ nB s → ndiff (sSt s 0) U = Lq s i → M_X11_match_35 q n y v (U : Int) (cnq s i) (smq s i) (w5 s v i) (i : Int) := by
  have hn := k.n
  have hw := k.w
  have h12 := pow12 hn.2
  induction n with
  | zero => intro i U a1 a2; omega
  | succ n ih =>
    intro i U a1 a2 hU hL
    have b1 := cnq_b (s := s) i
    have b2 := smq_b k i
    unfold M_X11_match_35
    rw [h.w]
    refine ⟨fun c => ?_, fun c => r_of h k hT (by omega) hU ?_⟩
    · have ei : i = nN s := by omega
      have st := cnq_st (s := s) 5 (by omega)
      unfold sMat at hq
      refine ⟨fun d => ⟨fun d2 => ?_, fun d2 => ?_⟩, fun d => ?_⟩
      · rw [if_neg d, if_neg d2, if_pos (by omega)] at hq
        unfold w5
        rw [if_pos (by omega)]
        exact hq
      · rw [if_neg d, if_pos d2, st.2] at hq
        rw [ei]; exact hq
      · rw [if_pos d, st.1] at hq
        rw [ei]; exact hq
    · rw [hL, show cho s i (Lq s i) = chq s i from rfl]
      have go : ∀ U' : Nat, U' < 2 ^ nB s → ndiff (sSt s 0) U' = Lq s (i + 1) → ∀ a b : Int, a = cnq s (i + 1) → b = smq s (i + 1) → ∀ z, (z = if (i : Int) = v then chq s i else w5 s v i) → M_X11_match_35 q n y v (U' : Int) a b z ((i : Int) + 1) := by
        intro U' h1 h2 a b ea eb z ez
        have := ih (i + 1) U' (by omega) (by omega) h1 h2
        rw [ea, eb, ez]
        by_cases g : (i : Int) = v
        · rw [w5_y g] at this
          rw [if_pos g]; exact this
        · rw [w5_n g] at this
          rw [if_neg g]; exact this
      have ec : cnq s (i + 1) = cnq s i + (if chq s i = -1 then 0 else 1) := rfl
      have es : smq s (i + 1) = smq s i + (if chq s i = -1 then 0 else sHo s (chq s i).toNat) := rfl
      rcases chq_p (s := s) i with e | ⟨b, e, hb, _⟩
      · rw [if_pos e] at ec es
        refine jF e (jF e (jF e ⟨⟨by omega, by omega⟩, ?_⟩))
        rw [jor_0 (by omega)]
        refine ⟨fun d => ⟨⟨by omega, by omega⟩, rg1 (by omega), go U hU (by rw [Lq_no e]; exact hL) _ _ ec.symm es.symm _ (by rw [if_neg d])⟩, fun d => ⟨⟨by omega, by omega⟩, rg1 (by omega), go U hU (by rw [Lq_no e]; exact hL) _ _ ec.symm es.symm _ (by rw [if_pos d])⟩⟩
      · rw [if_neg (by omega)] at ec es
        rw [e, Int.toNat_natCast] at es
        have ho := k.ho hb
        have hp : 2 ^ b < 2 ^ nB s := Nat.pow_lt_pow_right (by decide) hb
        have hW : U ||| 2 ^ b < 2 ^ nB s := Nat.or_lt_two_pow hU hp
        have hd : ndiff (sSt s 0) (U ||| 2 ^ b) = Lq s (i + 1) := by rw [← ndiff_or, hL, Lq_on e]
        rw [e] at go ⊢
        have en : ¬ ((b : Nat) : Int) = -1 := by omega
        refine jT en (jT en (jT en (r_holds h k hb ⟨⟨by omega, by omega⟩, ?_⟩)))
        rw [jshl_1 b (by omega), jor_n (by omega) (by omega)]
        refine ⟨fun d => ⟨⟨by omega, by omega⟩, rg1 (by omega), go _ hW hd _ _ ec.symm es.symm _ (by rw [if_neg d])⟩, fun d => ⟨⟨by omega, by omega⟩, rg1 (by omega), go _ hW hd _ _ ec.symm es.symm _ (by rw [if_pos d])⟩⟩
theorem R_match {s x : XM} {v : Int} {q : Int → XM → Prop} (h : RF s x) (k : Ok s) (hq : ∀ y, RF s y → Gr x y → q (sMat s v) y) : M_X11_match x v q := by
  have hw := k.w
  have hp0 : 0 < 2 ^ nB s := Nat.pow_pos (by decide)
  unfold M_X11_match
  rw [h.w]
  refine ⟨⟨by omega, by omega⟩, r_in ?_⟩
  by_cases c : -2 ≤ v ∧ v ≤ s 0 3 - 1
  · rw [if_pos c]
    refine jT (by decide) ⟨2 ^ nB s + 1, r_all2 h k (fun y e hT => ⟨nN s + 1, ?_⟩) (2 ^ nB s + 1) 0 x (by omega) (by omega) (fun _ _ => rfl) (fun U' hU' => by omega)⟩
    have := r_match35 (v := v) (q := q) (e.rf h) k hT (by omega) (hq y (e.rf h) fun k hk => e k (by omega)) (nN s + 1) 0 0 (by omega) (by omega) hp0 (ndiff_0 _)
    rw [show w5 s v 0 = -1 from if_neg (by omega)] at this
    exact this
  · rw [if_neg c]
    have := hq x h fun _ _ => rfl
    unfold sMat at this
    rw [if_neg (by omega), if_neg (by omega), if_neg (by omega)] at this
    exact jF rfl this
