/-! ===== teach ===== -/
def Ap (s : XM) (v w : Nat) : Nat := pS s v ^^^ pS s w
theorem pS_lt {s : XM} {w : Nat} : pS s w < 2 ^ nB s := bts_lt _ _
theorem Ap_lt {s : XM} {v w : Nat} : Ap s v w < 2 ^ nB s := Nat.xor_lt_two_pow pS_lt pS_lt
def Meet (s : XM) (v T : Nat) : Prop := ∀ w, w < 120 → ¬ Ap s v w = 0 → ¬ Ap s v w &&& T = 0
/-- fewer, or as many and no greater -/
def Lex (r T : Nat) : Prop := pcn r 12 < pcn T 12 ∨ (pcn r 12 = pcn T 12 ∧ r ≤ T)
def IsT (s : XM) (v r : Nat) : Prop := r < 2 ^ nB s ∧ Meet s v r ∧ ∀ T, T < 2 ^ nB s → Meet s v T → Lex r T
theorem IsT.uniq {s : XM} {v r r' : Nat} (h : IsT s v r) (h' : IsT s v r') : r = r' := by
  have a := h.2.2 r' h'.1 h'.2.1
  have b := h'.2.2 r h.1 h.2.1
  unfold Lex at a b
  omega
theorem and_full {A n : Nat} (h : A < 2 ^ n) : A &&& (2 ^ n - 1) = A := by
  rw [Nat.and_two_pow_sub_one_eq_mod, Nat.mod_eq_of_lt h]
theorem Meet.full {s : XM} {v : Nat} : Meet s v (2 ^ nB s - 1) := fun w _ h => by
  rw [and_full Ap_lt]
  exact h
theorem pcn_full {T : Nat} : ∀ n, pcn T n = n → ∀ i, i < n → T.testBit i = true
  | 0, _, i, hi => by omega
  | n + 1, h, i, hi => by
    have hl := pcn_le T n
    unfold pcn at h
    by_cases c : T.testBit n = true
    · rw [if_pos c] at h
      by_cases e : i = n
      · rw [e]; exact c
      · exact pcn_full n (by omega) i (by omega)
    · rw [if_neg c] at h
      omega
theorem full_eq {T n : Nat} (hn : n ≤ 12) (hT : T < 2 ^ n) (h : n ≤ pcn T 12) : T = 2 ^ n - 1 := by
  rw [pcn_ge hn hT] at h
  have hl := pcn_le T n
  have hf := pcn_full n (by omega : pcn T n = n)
  apply Nat.eq_of_testBit_eq
  intro i
  rw [Nat.testBit_two_pow_sub_one]
  by_cases c : i < n
  · rw [hf i c, decide_eq_true c]
  · rw [decide_eq_false c]
    exact Nat.testBit_lt_two_pow (Nat.lt_of_lt_of_le hT (Nat.pow_le_pow_right (by decide) (by omega)))
theorem pc_full {n : Nat} (hn : n ≤ 12) : pcn (2 ^ n - 1) 12 = n := (by decide : ∀ n, n < 13 → pcn (2 ^ n - 1) 12 = n) n (by omega)
/-- the class's partings after w rules -/
def Gt (s : XM) (v : Nat) (x y : XM) (w : Nat) : Prop := CF s y ∧ (∀ k, k ≠ 65 → k ≠ 67 → y k = x k) ∧ ∃ (L : Nat) (F : Nat → Nat), L ≤ w ∧ y 65 3 = (L : Int) ∧ (∀ i, i < L → y 67 i = (F i : Int) ∧ F i < 2 ^ nB s ∧ ∃ u, u < w ∧ F i = Ap s v u ∧ ¬ Ap s v u = 0) ∧ ∀ u, u < w → ¬ Ap s v u = 0 → ∃ i, i < L ∧ ndiff (F i) (Ap s v u) = 0
theorem c_isMet_2 {s y : XM} {A L : Nat} {F : Nat → Nat} {q : Int → Prop} (k : Ok s) (hL : L ≤ 120) (h65 : y 65 3 = (L : Int)) (h67 : ∀ i, i < L → y 67 i = (F i : Int) ∧ F i < 2 ^ nB s) (h1 : ∀ i, i < L → ndiff (F i) A = 0 → q 1) (h0 : (∀ i, i < L → ¬ ndiff (F i) A = 0) → q 0) (n : Nat) : ∀ i, i ≤ L → L < i + n → (∀ j, j < i → ¬ ndiff (F j) A = 0) → M_X4_isMetAnyway_2 q y n (A : Int) (i : Int) := by
  have h12 := pow12 k.n.2
  induction n with
  | zero => intro i a1 a2; omega
  | succ n ih =>
    intro i a1 a2 hj
    unfold M_X4_isMetAnyway_2
    rw [h65]
    refine ⟨fun c => h0 fun j hjL => hj j (by omega), fun c => ⟨⟨by omega, by omega⟩, ?_⟩⟩
    obtain ⟨e1, e2⟩ := h67 i (by omega)
    rw [Int.toNat_natCast, e1, jdiff_n (by omega)]
    refine ⟨fun d => ⟨rg1 (by omega), ih (i + 1) (by omega) (by omega) fun j hji => ?_⟩, fun d => h1 i (by omega) (by omega)⟩
    by_cases e : j = i
    · rw [e]; omega
    · exact hj j (by omega)
theorem ndiff_self (A : Nat) : ndiff A A = 0 := by
  apply Nat.eq_of_testBit_eq
  intro i
  rw [ndiff_bit, Nat.zero_testBit]
  simp
theorem c_gather_13 {s x : XM} {v : Nat} {q : XM → Prop} (k : Ok s) (hq : ∀ y, Gt s v x y 120 → q y) (n : Nat) : ∀ (w : Nat) (y : XM), w ≤ 120 → 120 < w + n → Gt s v x y w → M_X4_gatherPartings_13 q n y ((pS s v : Nat) : Int) (w : Int) := by
  have h12 := pow12 k.n.2
  induction n with
  | zero => intro w y a1 a2; omega
  | succ n ih =>
    intro w y a1 a2 hy
    unfold M_X4_gatherPartings_13
    refine ⟨fun c => hq y (by rw [show w = 120 by omega] at hy; exact hy), fun c => c_passing hy.1 k (by omega) ?_⟩
    obtain ⟨hc, fy, L, F, b1, b2, b3, b4⟩ := hy
    have hp1 := pS_lt (s := s) (w := v)
    have hp2 := pS_lt (s := s) (w := w)
    rw [jxor_n (by omega) (by omega)]
    show (((Ap s v w : Nat) : Int) = 0 → _) ∧ (¬ ((Ap s v w : Nat) : Int) = 0 → M_X4_isMetAnyway y ((Ap s v w : Nat) : Int) _)
    have up : ∀ u, u < w + 1 → u < w ∨ u = w := fun u hu => by omega
    refine ⟨fun d => ⟨rg1 (by omega), ih (w + 1) y (by omega) (by omega) ⟨hc, fy, L, F, by omega, b2, fun i hi => ?_, fun u hu hA => ?_⟩⟩, fun d => ⟨L + 1, c_isMet_2 k (by omega) b2 (fun i hi => ⟨(b3 i hi).1, (b3 i hi).2.1⟩) (fun i hi e => ?_) (fun hno => ?_) (L + 1) 0 (by omega) (by omega) (fun j hj => by omega)⟩⟩
    · obtain ⟨e1, e2, u, e3, e4⟩ := b3 i hi
      exact ⟨e1, e2, u, by omega, e4⟩
    · rcases up u hu with e | e
      · exact b4 u e hA
      · rw [e] at hA; omega
    · refine jT (by decide) ⟨rg1 (by omega), ih (w + 1) y (by omega) (by omega) ⟨hc, fy, L, F, by omega, b2, fun i hi => ?_, fun u hu hA => ?_⟩⟩
      · obtain ⟨e1, e2, u, e3, e4⟩ := b3 i hi
        exact ⟨e1, e2, u, by omega, e4⟩
      · rcases up u hu with f | f
        · exact b4 u f hA
        · rw [f]; exact ⟨i, hi, e⟩
    · refine jF rfl ?_
      rw [b2, Int.toNat_natCast]
      refine ⟨⟨by omega, by omega⟩, fun x11 e11 => ?_⟩
      have f11 : x11 65 3 = (L : Int) := by rw [e11, uX_k (by decide), b2]
      rw [f11]
      refine ⟨rg1 (by omega), fun z ez => ⟨rg1 (by omega), ih (w + 1) z (by omega) (by omega) ⟨hc.scr fun k h1 h2 => ?_, fun k h1 h2 => ?_, L + 1, fun i => if i = L then Ap s v w else F i, by omega, ?_, fun i hi => ?_, fun u hu hA => ?_⟩⟩⟩
      · rw [ez, uX_k (by omega), e11, uX_k (by omega)]
      · rw [ez, uX_k h1, e11, uX_k h2]; exact fy k h1 h2
      · rw [ez, uX_eq]; rfl
      · have e67 : z 67 i = if i = L then ((Ap s v w : Nat) : Int) else y 67 i := by rw [ez, uX_k (by decide), e11, uX_at]; rfl
        rw [e67]
        show (if i = L then ((Ap s v w : Nat) : Int) else y 67 i) = (((if i = L then Ap s v w else F i) : Nat) : Int) ∧ (if i = L then Ap s v w else F i) < 2 ^ nB s ∧ ∃ u, u < w + 1 ∧ (if i = L then Ap s v w else F i) = Ap s v u ∧ ¬ Ap s v u = 0
        by_cases e : i = L
        · rw [if_pos e, if_pos e]
          exact ⟨rfl, Ap_lt, w, by omega, rfl, by omega⟩
        · rw [if_neg e, if_neg e]
          obtain ⟨e1, e2, u, e3, e4⟩ := b3 i (by omega)
          exact ⟨e1, e2, u, by omega, e4⟩
      · show ∃ i, i < L + 1 ∧ ndiff (if i = L then Ap s v w else F i) (Ap s v u) = 0
        rcases up u hu with f | f
        · obtain ⟨i, h1, h2⟩ := b4 u f hA
          exact ⟨i, by omega, by rw [if_neg (by omega)]; exact h2⟩
        · exact ⟨L, by omega, by rw [if_pos rfl, f, ndiff_self]⟩
theorem Gt.meet {s x y : XM} {v T : Nat} {L : Nat} {F : Nat → Nat} (b3 : ∀ i, i < L → y 67 i = (F i : Int) ∧ F i < 2 ^ nB s ∧ ∃ u, u < 120 ∧ F i = Ap s v u ∧ ¬ Ap s v u = 0) (b4 : ∀ u, u < 120 → ¬ Ap s v u = 0 → ∃ i, i < L ∧ ndiff (F i) (Ap s v u) = 0) : Meet s v T ↔ ∀ i, i < L → ¬ F i &&& T = 0 := by
  constructor
  · intro h i hi
    obtain ⟨_, _, u, e1, e2, e3⟩ := b3 i hi
    rw [e2]
    exact h u e1 e3
  · intro h u hu hA e
    obtain ⟨i, hi, e2⟩ := b4 u hu hA
    refine h i hi ?_
    apply Nat.eq_of_testBit_eq
    intro j
    have t1 : (ndiff (F i) (Ap s v u)).testBit j = Nat.testBit 0 j := by rw [e2]
    have t2 : (Ap s v u &&& T).testBit j = Nat.testBit 0 j := by rw [e]
    rw [ndiff_bit, Nat.zero_testBit] at t1
    rw [Nat.testBit_and, Nat.zero_testBit] at t2
    rw [Nat.testBit_and, Nat.zero_testBit]
    revert t1 t2
    cases (F i).testBit j <;> cases (Ap s v u).testBit j <;> cases T.testBit j <;> simp
theorem c_meets_2 {s y : XM} {T L : Nat} {F : Nat → Nat} {q : Int → Prop} (k : Ok s) (hL : L ≤ 120) (h65 : y 65 3 = (L : Int)) (h67 : ∀ i, i < L → y 67 i = (F i : Int) ∧ F i < 2 ^ nB s) (h0 : ∀ i, i < L → F i &&& T = 0 → q 0) (h1 : (∀ i, i < L → ¬ F i &&& T = 0) → q 1) (n : Nat) : ∀ i, i ≤ L → L < i + n → (∀ j, j < i → ¬ F j &&& T = 0) → M_X4_meetsAllPartings_2 q y n (T : Int) (i : Int) := by
  have h12 := pow12 k.n.2
  induction n with
  | zero => intro i a1 a2; omega
  | succ n ih =>
    intro i a1 a2 hj
    unfold M_X4_meetsAllPartings_2
    rw [h65]
    refine ⟨fun c => h1 fun j hjL => hj j (by omega), fun c => ⟨⟨by omega, by omega⟩, ?_⟩⟩
    obtain ⟨e1, e2⟩ := h67 i (by omega)
    rw [Int.toNat_natCast, e1, jand_n (by omega)]
    refine ⟨fun d => ⟨rg1 (by omega), ih (i + 1) (by omega) (by omega) fun j hji => ?_⟩, fun d => h0 i (by omega) (by omega)⟩
    by_cases e : j = i
    · rw [e]; omega
    · exact hj j (by omega)
theorem c_fewest_26 {s x y : XM} {v : Nat} {q : Int → XM → Prop} (k : Ok s) (hy : Gt s v x y 120) (hq : ∀ r : Nat, IsT s v r → q (r : Int) y) (n : Nat) : ∀ T r : Nat, T ≤ 2 ^ nB s → 2 ^ nB s < T + n → r < 2 ^ nB s → Meet s v r → (r = 2 ^ nB s - 1 ∨ r < T) → (∀ T', T' < T → Meet s v T' → Lex r T') → M_X4_fewestTeachers_26 q n y (nB s : Int) (r : Int) ((pcn r 12 : Nat) : Int) (T : Int) := by
  have hn := k.n
  have h12 := pow12 hn.2
  have hp0 : 0 < 2 ^ nB s := Nat.pow_pos (by decide)
  obtain ⟨hc, fy, L, F, b1, b2, b3, b4⟩ := hy
  induction n with
  | zero => intro T r a1 a2; omega
  | succ n ih =>
    intro T r a1 a2 hr hm hrT hall
    unfold M_X4_fewestTeachers_26
    rw [jshl_1 _ (by omega)]
    refine ⟨fun c => hq r ⟨hr, hm, fun T' hT' => hall T' (by omega)⟩, fun c => s_bitCount (by omega) ?_⟩
    have skip : (Meet s v T → Lex r T) → M_X4_fewestTeachers_26 q n y (nB s : Int) (r : Int) ((pcn r 12 : Nat) : Int) ((T : Int) + 1) := fun hs =>
      ih (T + 1) r (by omega) (by omega) hr hm (by omega) fun T' hT' hm' => by
        by_cases e : T' = T
        · rw [e] at hm' ⊢; exact hs hm'
        · exact hall T' (by omega) hm'
    refine ⟨fun d => ⟨rg1 (by omega), skip fun _ => ?_⟩, fun d => ⟨L + 1, c_meets_2 k (by omega) b2 (fun i hi => ⟨(b3 i hi).1, (b3 i hi).2.1⟩) (fun i hi e => ?_) (fun hall2 => ?_) (L + 1) 0 (by omega) (by omega) (fun j hj => by omega)⟩⟩
    · rcases hrT with e | e
      · rw [e, pc_full hn.2] at d
        have := full_eq hn.2 (by omega) (by omega : nB s ≤ pcn T 12)
        rw [e, ← this]
        exact Or.inr ⟨rfl, Nat.le_refl _⟩
      · unfold Lex
        omega
    · exact iT rfl ⟨rg1 (by omega), skip fun hm' => absurd e ((Gt.meet (x := x) b3 b4).1 hm' i hi)⟩
    · have hmT := (Gt.meet (x := x) (T := T) b3 b4).2 hall2
      refine iF (by decide) (s_bitCount (by omega) ⟨rg1 (by omega), ih (T + 1) T (by omega) (by omega) (by omega) hmT (Or.inr (by omega)) fun T' hT' hm' => ?_⟩)
      by_cases e : T' = T
      · rw [e]; exact Or.inr ⟨rfl, Nat.le_refl _⟩
      · have := hall T' (by omega) hm'
        unfold Lex at this ⊢
        omega
theorem C_teach {s x : XM} {v : Int} {q : Int → XM → Prop} (h : CF s x) (k : Ok s) (h1 : ¬ (0 ≤ v ∧ v < 120) → q (-1000000002) x) (h2 : ∀ w : Nat, v = (w : Int) → w < 120 → ∀ (r : Nat) (y : XM), IsT s w r → CF s y → Fr x y → q (r : Int) y) : M_X10_teach x v q := by
  have hn := k.n
  have h12 := pow12 hn.2
  have hp0 : 0 < 2 ^ nB s := Nat.pow_pos (by decide)
  refine ⟨fun c => h1 (by omega), fun c => ⟨fun c2 => h1 (by omega), fun c2 => ?_⟩⟩
  obtain ⟨w, rfl⟩ : ∃ w : Nat, v = w := ⟨v.toNat, by omega⟩
  refine c_passing h k (by omega) fun x2 e2 => ⟨121, c_gather_13 (x := x) k (fun y hy => ?_) 121 0 x2 (by omega) (by omega) ⟨h.scr fun k a b => by rw [e2, uX_k (by omega)], fun k a b => by rw [e2, uX_k a], 0, fun _ => 0, by omega, by rw [e2, uX_eq]; rfl, fun i hi => by omega, fun u hu => by omega⟩⟩
  refine c_count1 hy.1 ?_
  rw [hn.1, jshl_1 _ (by omega), show ((2 ^ nB s : Nat) : Int) - 1 = ((2 ^ nB s - 1 : Nat) : Int) by omega]
  refine ⟨⟨by omega, by omega⟩, 2 ^ nB s + 1, ?_⟩
  have := c_fewest_26 k hy (fun r hr => h2 w rfl (by omega) r y hr hy.1 fun k hk => hy.2.1 k (by omega) (by omega)) (2 ^ nB s + 1) 0 (2 ^ nB s - 1) (by omega) (by omega) (by omega) Meet.full (Or.inl rfl) (fun T' hT' => by omega)
  rw [pc_full hn.2] at this
  exact this
theorem r_apart_5 {s x : XM} {v w : Nat} {q : Int → Prop} (h : RF s x) (k : Ok s) (hv : v < 120) (hw : w < 120) (hq : q ((Ap s v w : Nat) : Int)) (n : Nat) : ∀ b, b ≤ nB s → nB s < b + n → M_X11_apart_5 q x n (v : Int) (w : Int) ((bts (fun b => sPs s v b != sPs s w b) b : Nat) : Int) (b : Int) := by
  have hn := k.n
  have eA : bts (fun b => sPs s v b != sPs s w b) (nB s) = Ap s v w := by
    apply Nat.eq_of_testBit_eq
    intro i
    unfold Ap
    have p1 : (pS s v).testBit i = (decide (i < nB s) && sPs s v i) := bts_bit _ _ _
    have p2 : (pS s w).testBit i = (decide (i < nB s) && sPs s w i) := bts_bit _ _ _
    rw [Nat.testBit_xor, p1, p2, bts_bit]
    cases decide (i < nB s) <;> cases sPs s v i <;> cases sPs s w i <;> rfl
  induction n with
  | zero => intro b h1 h2; omega
  | succ n ih =>
    intro b h1 h2
    unfold M_X11_apart_5
    rw [h.n]
    refine ⟨fun c => by rw [show b = nB s by omega, eA]; exact hq, fun c => ?_⟩
    have ih := ih (b + 1) (by omega) (by omega)
    have hl := bts_lt (fun b => sPs s v b != sPs s w b) b
    have hp := pow12 (b := b) (by omega)
    refine r_passes h k hv (by omega) (r_passes h k hw (by omega) ?_)
    by_cases d : sPs s v b = sPs s w b
    · refine iT (by rw [d]) ⟨rg1 (by omega), ?_⟩
      rw [jor_0 (by omega)]
      rw [bts_no (by simp [d])] at ih
      exact ih
    · refine iF (fun e => d ?_) ⟨rg1 (by omega), ?_⟩
      · revert e
        cases sPs s v b <;> cases sPs s w b <;> simp
      · rw [bts_add (by omega) (by simp [d])]
        exact ih
/-- the reference's partings below w -/
def Pt (s : XM) (v : Nat) (x y : XM) (w : Nat) : Prop := RF s y ∧ (∀ k, k ≠ 99 → y k = x k) ∧ ∀ u, u < w → y 99 u = ((Ap s v u : Nat) : Int)
theorem r_teach_71 {s x y : XM} {v T : Nat} {v2 : Int} {q : Int → XM → Prop} {K50 : XM → Int → Int → Prop} (k : Ok s) (hy : Pt s v x y 120) (hT : T < 2 ^ nB s) (h0 : ¬ Meet s v T → K50 y v2 ((T : Int) + (-1))) (h1 : Meet s v T → K50 y (T : Int) ((T : Int) + (-1))) (n : Nat) : ∀ (w : Nat) (f : Bool), w ≤ 120 → 120 < w + n → (f = true → ∀ u, u < w → ¬ Ap s v u = 0 → ¬ Ap s v u &&& T = 0) → (f = false → ¬ Meet s v T) → M_X11_teach_71 q K50 n y v2 (T : Int) (if f then 1 else 0) (w : Int) := by
  have h12 := pow12 k.n.2
  induction n with
  | zero => intro w f a1 a2; omega
  | succ n ih =>
    intro w f a1 a2 ht hf
    unfold M_X11_teach_71
    cases f
    · have nm := hf rfl
      have E : M_X11_teach_118 q K50 y v2 (T : Int) (if (false : Bool) = true then 1 else 0) := iT rfl ⟨⟨by omega, by omega⟩, h0 nm⟩
      exact ⟨fun c => E, fun c => iT rfl E⟩
    · refine ⟨fun c => iF (by decide) ⟨⟨by omega, by omega⟩, h1 fun u hu => ht rfl u (by omega)⟩, fun c => iF (by decide) ⟨⟨by omega, by omega⟩, ?_⟩⟩
      have hA := Ap_lt (s := s) (v := v) (w := w)
      have e1 := hy.2.2 w (by omega)
      rw [Int.toNat_natCast, e1, jand_n (by omega)]
      refine ⟨fun d => ⟨rg1 (by omega), ih (w + 1) true (by omega) (by omega) (fun _ u hu hu0 => ?_) (fun e => by cases e)⟩, fun d => ⟨⟨by omega, by omega⟩, ⟨fun e => ⟨rg1 (by omega), ih (w + 1) false (by omega) (by omega) (fun e => by cases e) fun _ hm => hm w (by omega) (by omega) (by omega)⟩, fun e => ⟨rg1 (by omega), ih (w + 1) true (by omega) (by omega) (fun _ u hu hu0 => ?_) (fun e => by cases e)⟩⟩⟩⟩
      · by_cases g : u = w
        · rw [g] at hu0; omega
        · exact ht rfl u (by omega) hu0
      · by_cases g : u = w
        · rw [g]; omega
        · exact ht rfl u (by omega) hu0
theorem r_teach_50 {s x y : XM} {v : Nat} {q : Int → XM → Prop} (k : Ok s) (hy : Pt s v x y 120) (hq : ∀ r : Nat, IsT s v r → q (r : Int) y) (n : Nat) : ∀ (T r : Nat) (v3 : Int), v3 = (T : Int) - 1 → T ≤ 2 ^ nB s → T < n → r < 2 ^ nB s → Meet s v r → (∀ T', T ≤ T' → T' < 2 ^ nB s → Meet s v T' → Lex r T') → M_X11_teach_50 q n y (r : Int) v3 := by
  have hn := k.n
  have h12 := pow12 hn.2
  induction n with
  | zero => intro T r v3 _ a1 a2; omega
  | succ n ih =>
    intro T r v3 e3 a1 a2 hr hm hall
    unfold M_X11_teach_50
    refine ⟨fun c => hq r ⟨hr, hm, fun T' hT' => hall T' (by omega) hT'⟩, fun c => ?_⟩
    obtain ⟨t, rfl⟩ : ∃ t, T = t + 1 := ⟨T - 1, by omega⟩
    rw [show v3 = (t : Int) by omega]
    have skip : (Meet s v t → Lex r t) → M_X11_teach_50 q n y (r : Int) ((t : Int) + (-1)) := fun hs =>
      ih t r _ (by omega) (by omega) (by omega) hr hm fun T' h1 h2 hm' => by
        by_cases e : T' = t
        · rw [e] at hm' ⊢; exact hs hm'
        · exact hall T' (by omega) h2 hm'
    refine s_bitsOf (by omega) (s_bitsOf (by omega) ⟨fun d => ⟨⟨by omega, by omega⟩, skip fun _ => Or.inl (by omega)⟩, fun d => ⟨121, ?_⟩⟩)
    refine r_teach_71 k hy (by omega) (fun nm => skip fun hm' => absurd hm' nm) (fun hmt => ?_) 121 0 true (by omega) (by omega) (fun _ u hu => by omega) (fun e => by cases e)
    refine ih t t _ (by omega) (by omega) (by omega) (by omega) hmt fun T' h1 h2 hm' => ?_
    by_cases e : T' = t
    · rw [e]; exact Or.inr ⟨rfl, Nat.le_refl _⟩
    · have := hall T' (by omega) h2 hm'
      unfold Lex at this ⊢
      omega
theorem r_teach_15 {s x : XM} {v : Nat} {q : Int → XM → Prop} (k : Ok s) (hv : v < 120) (hq : ∀ (r : Nat) (y : XM), IsT s v r → RF s y → Gr x y → q (r : Int) y) (n : Nat) : ∀ (w : Nat) (y : XM), w ≤ 120 → 120 < w + n → Pt s v x y w → M_X11_teach_15 q n y (v : Int) (w : Int) := by
  have hn := k.n
  have h12 := pow12 hn.2
  have hp0 : 0 < 2 ^ nB s := Nat.pow_pos (by decide)
  induction n with
  | zero => intro w y a1 a2; omega
  | succ n ih =>
    intro w y a1 a2 hy
    unfold M_X11_teach_15
    rw [hy.1.n, hn.1, jshl_1 _ (by omega), show ((2 ^ nB s : Nat) : Int) - 1 = ((2 ^ nB s - 1 : Nat) : Int) by omega]
    refine ⟨fun c => ⟨⟨by omega, by omega⟩, 2 ^ nB s + 1, ?_⟩, fun c => ⟨nB s + 1, r_apart_5 hy.1 k hv (by omega) ⟨⟨by omega, by omega⟩, fun z ez => ⟨rg1 (by omega), ih (w + 1) z (by omega) (by omega) ⟨hy.1.scr (fun k h1 h2 h3 => by rw [ez, uX_k (by omega)]) (fun j hj => by rw [ez, uX_k (by decide)]), fun k hk => by rw [ez, uX_k hk, hy.2.1 k hk], fun u hu => ?_⟩⟩⟩ (nB s + 1) 0 (by omega) (by omega)⟩⟩
    · rw [show w = 120 by omega] at hy
      refine r_teach_50 k hy (fun r hr => hq r y hr hy.1 fun k hk => hy.2.1 k (by omega)) (2 ^ nB s + 1) (2 ^ nB s) (2 ^ nB s - 1) _ (by omega) (by omega) (by omega) (by omega) Meet.full fun T' h1 h2 => by omega
    · rw [ez, Int.toNat_natCast, uX_at]
      by_cases d : u = w
      · rw [if_pos d, d]
      · rw [if_neg d]; exact hy.2.2 u (by omega)
theorem R_teach {s x : XM} {v : Int} {q : Int → XM → Prop} (h : RF s x) (k : Ok s) (h1 : ¬ (0 ≤ v ∧ v < 120) → q (-1000000002) x) (h2 : ∀ w : Nat, v = (w : Int) → w < 120 → ∀ (r : Nat) (y : XM), IsT s w r → RF s y → Gr x y → q (r : Int) y) : M_X11_teach x v q := by
  refine r_in ?_
  by_cases c : 0 ≤ v ∧ v ≤ 119
  · rw [if_pos c]
    obtain ⟨w, rfl⟩ : ∃ w : Nat, v = w := ⟨v.toNat, by omega⟩
    exact jT (by decide) ⟨121, r_teach_15 k (by omega) (h2 w rfl (by omega)) 121 0 x (by omega) (by omega) ⟨h, fun _ _ => rfl, fun u hu => by omega⟩⟩
  · rw [if_neg c]
    exact jF rfl (h1 (by omega))
