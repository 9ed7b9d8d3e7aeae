/-! ===== told: the class's and the reference's ===== -/
def used (s : XM) : Nat → Nat
  | 0 => 0
  | n + 1 => used s n ||| (if sRu s n = -1 then 0 else 2 ^ (sRu s n).toNat)
theorem used_lt {s : XM} (k : Ok s) : ∀ n, used s n < 2 ^ 6
  | 0 => by show 0 < 2 ^ 6; decide
  | n + 1 => by
    unfold used
    refine Nat.or_lt_two_pow (used_lt k n) ?_
    have := k.r
    rcases sRu_ge k n with e | ⟨r, e, hr⟩
    · rw [if_pos e]; decide
    · rw [if_neg (by omega), e, Int.toNat_natCast]
      exact Nat.pow_lt_pow_right (by decide) (by omega)
def pTh (s : XM) (kind b : Nat) : Bool := if kind = 0 then decide (8 ≤ s 5 b) else if kind = 1 then decide (sRu s b = -1) else decide (¬ sHp s b = -1 ∧ ¬ sHp s b = sGo s b)
theorem sGo_ge {s : XM} (k : Ok s) (b : Nat) : sGo s b = -1 ∧ sRu s b = -1 ∨ (∃ g : Nat, sGo s b = (g : Int) ∧ g < 6) ∧ ¬ sRu s b = -1 := by
  unfold sGo
  rcases sRu_ge k b with e | ⟨r, e, hr⟩
  · exact Or.inl ⟨if_pos e, e⟩
  · have := (k.ru hr).2.2.2
    refine Or.inr ⟨⟨(s 2 (4 * r + 3)).toNat, ?_, by omega⟩, by omega⟩
    rw [if_neg (by omega), e, Int.toNat_natCast]
    omega
theorem c_inWrong_4 {s x : XM} {q : Int → Prop} (h : CF s x) (k : Ok s) (hq : q ((bts (pTh s 2) (nB s) : Nat) : Int)) (n : Nat) : ∀ b, b ≤ nB s → nB s < b + n → M_X0_inWrongHeap_4 q x n ((bts (pTh s 2) b : Nat) : Int) (b : Int) := by
  have := k.n
  induction n with
  | zero => intro b h1 h2; omega
  | succ n ih =>
    intro b h1 h2
    unfold M_X0_inWrongHeap_4
    refine c_count1 h ⟨fun c => ?_, fun c => ?_⟩
    · rw [show b = nB s by omega]
      exact hq
    · have ih := ih (b + 1) (by omega) (by omega)
      refine c_heapOf h (by omega) ?_
      by_cases c1 : sHp s b = -1
      · refine iT c1 ⟨rg1 (by omega), ?_⟩
        rw [bts_no (by simp [pTh, c1])] at ih
        exact ih
      · refine iF c1 (c_heapOf h (by omega) (c_goal h k (by omega) ?_))
        by_cases c2 : sHp s b = sGo s b
        · refine iT c2 ⟨rg1 (by omega), ?_⟩
          rw [bts_no (by simp [pTh, c2])] at ih
          exact ih
        · refine iF c2 ⟨rg1 (by omega), ?_⟩
          rw [bts_add (by omega) (by simp [pTh, c1, c2])]
          exact ih
theorem c_inWrong {s x : XM} {q : Int → Prop} (h : CF s x) (k : Ok s) (hq : q ((bts (pTh s 2) (nB s) : Nat) : Int)) : M_X0_inWrongHeap x q := ⟨nB s + 1, c_inWrong_4 h k hq (nB s + 1) 0 (by omega) (by omega)⟩
theorem ndiff_or (F U V : Nat) : ndiff (ndiff F U) V = ndiff F (U ||| V) := by
  apply Nat.eq_of_testBit_eq
  intro i
  simp only [ndiff_bit, Nat.testBit_or]
  cases F.testBit i <;> cases U.testBit i <;> cases V.testBit i <;> rfl
theorem ndiff_0 (F : Nat) : ndiff F 0 = F := by
  apply Nat.eq_of_testBit_eq
  intro i
  simp [ndiff_bit]
theorem c_idle_12 {s x : XM} {q : Int → Prop} (h : CF s x) (k : Ok s) (hq : q ((ndiff (2 ^ nR s - 1) (used s (nB s)) : Nat) : Int)) (n : Nat) : ∀ b, b ≤ nB s → nB s < b + n → M_X0_idle_12 q x n ((ndiff (2 ^ nR s - 1) (used s b) : Nat) : Int) (b : Int) := by
  have hn := k.n
  have hr := k.r
  have hp : 2 ^ nR s ≤ 2 ^ 6 := Nat.pow_le_pow_right (by decide) hr.2
  have hp0 : 0 < 2 ^ nR s := Nat.pow_pos (by decide)
  induction n with
  | zero => intro b h1 h2; omega
  | succ n ih =>
    intro b h1 h2
    unfold M_X0_idle_12
    refine c_count1 h ⟨fun c => ?_, fun c => ?_⟩
    · rw [show b = nB s by omega]
      exact hq
    · have ih := ih (b + 1) (by omega) (by omega)
      unfold used at ih
      rw [← ndiff_or] at ih
      refine c_firstRule h k (by omega) ?_
      rcases sRu_ge k b with e | ⟨r, e, hl⟩
      · refine iT e ⟨rg1 (by omega), ?_⟩
        rw [if_pos e, ndiff_0] at ih
        exact ih
      · refine iF (by omega) ⟨rg1 (by omega), ?_⟩
        rw [if_neg (by omega), e, Int.toNat_natCast] at ih
        have hlt : ndiff (2 ^ nR s - 1) (used s b) < 2 ^ 31 := Nat.lt_trans (ndiff_lt (k := 6) (by omega)) (by decide)
        rw [e, jshl_1 r (by omega), jdiff_n hlt]
        exact ih
theorem c_idle {s x : XM} {q : Int → Prop} (h : CF s x) (k : Ok s) (hq : q ((ndiff (2 ^ nR s - 1) (used s (nB s)) : Nat) : Int)) : M_X0_idle x q := by
  have hr := k.r
  have hp : 2 ^ nR s ≤ 2 ^ 6 := Nat.pow_le_pow_right (by decide) hr.2
  have hp0 : 0 < 2 ^ nR s := Nat.pow_pos (by decide)
  refine c_count2 h ?_
  rw [hr.1, jshl_1 _ (by omega), show ((2 ^ nR s : Nat) : Int) - 1 = ((2 ^ nR s - 1 : Nat) : Int) by omega]
  refine ⟨⟨by omega, by omega⟩, nB s + 1, ?_⟩
  have := c_idle_12 h k hq (nB s + 1) 0 (by omega) (by omega)
  unfold used at this
  rw [ndiff_0] at this
  exact this
theorem Ok.be {s : XM} (k : Ok s) {b : Nat} (hb : b < 12) : s 5 (12 + b) = 0 ∨ s 5 (12 + b) = 1 := by
  have := k.2.2.1.2.2.2.1 b hb
  rwa [Nat.zero_add] at this
theorem Ok.ho {s : XM} (k : Ok s) {b : Nat} (hb : b < nB s) : 0 ≤ sHo s b ∧ sHo s b ≤ 45 ∧ 0 ≤ (sMk s b 0 + 1) * sMk s b 1 ∧ (sMk s b 0 + 1) * sMk s b 1 ≤ 45 := by
  obtain ⟨⟨h1, h2⟩, ⟨h3, h4⟩, _⟩ := k.mk hb
  have e0 : sMk s b 0 = s 1 (4 * b) := rfl
  have e1 : sMk s b 1 = s 1 (4 * b + 1) := rfl
  have p1 : 0 ≤ (sMk s b 0 + 1) * sMk s b 1 := Int.mul_nonneg (by omega) (by omega)
  have p2 : (sMk s b 0 + 1) * sMk s b 1 ≤ 5 * 9 := Int.mul_le_mul (by omega) (by omega) (by omega) (by omega)
  have := k.be (b := b) (by have := k.n; omega)
  unfold sHo
  split <;> omega
theorem c_holds {s x : XM} {b : Nat} {q : Int → Prop} (h : CF s x) (k : Ok s) (hb : b < nB s) (hq : q (sHo s b)) : M_X0_holds x (b : Int) q := by
  have hn := k.n
  obtain ⟨_, _, p1, p2⟩ := k.ho hb
  refine c_mark h k hb (m := 0) (by decide) (c_mark h k hb (m := 1) (by decide) (c_mark h k hb (m := 3) (by decide) ?_))
  have e3 : sMk s b 3 = s 5 (12 + b) := rfl
  unfold sHo at hq
  rcases k.be (b := b) (by omega) with c | c
  · rw [c] at hq
    rw [if_pos (by omega), show ∀ z : Int, z - 5 * 0 = z by intro z; omega] at hq
    exact jT (by omega) ⟨⟨by omega, by omega⟩, hq⟩
  · rw [c] at hq
    refine jF (by omega) ⟨⟨by omega, by omega⟩, s_max ?_⟩
    by_cases d : 0 < (sMk s b 0 + 1) * sMk s b 1 - 5
    · rw [if_pos (by omega)] at hq
      rw [if_pos d]
      exact hq
    · rw [if_neg d]
      split at hq
      · rw [show (sMk s b 0 + 1) * sMk s b 1 - 5 * 1 = 0 by omega] at hq
        exact hq
      · exact hq
theorem r_markOf {s x : XM} {b m : Nat} {q : Int → Prop} (h : RF s x) (k : Ok s) (hb : b < nB s) (hm : m < 4) (hq : q (sMk s b m)) : M_X11_markOf x (b : Int) (m : Int) q := by
  have := k.n
  unfold sMk at hq
  refine ⟨fun c => ⟨⟨by omega, by omega⟩, ?_⟩, fun c => ⟨⟨by omega, by omega⟩, ?_⟩⟩
  · rw [if_neg (by omega)] at hq
    rw [show (4 * (b : Int) + m).toNat = 4 * b + m by omega, h.mk (by omega)]
    exact hq
  · rw [if_pos (by omega)] at hq
    rw [show (12 + (b : Int)).toNat = 12 + b by omega, h.nw (by omega)]
    exact hq
theorem r_passesRule {s x : XM} {r b : Nat} {q : Int → Prop} (h : RF s x) (k : Ok s) (hr : r < nR s) (hb : b < nB s) (hq : q (if sPR s r b then 1 else 0)) : M_X11_passesRule x (r : Int) (b : Int) q := by
  have := k.r
  have hru := k.ru hr
  refine ⟨⟨by omega, by omega⟩, ⟨by omega, by omega⟩, ⟨by omega, by omega⟩, ?_⟩
  rw [show (4 * (r : Int)).toNat = 4 * r by omega, show (4 * (r : Int) + 1).toNat = 4 * r + 1 by omega, show (4 * (r : Int) + 2).toNat = 4 * r + 2 by omega, h.ru (by omega), h.ru (by omega), h.ru (by omega)]
  obtain ⟨m, hm⟩ : ∃ m : Nat, s 2 (4 * r) = (m : Int) := ⟨(s 2 (4 * r)).toNat, by have := hru.1; omega⟩
  rw [hm]
  refine r_markOf h k hb (by have := hru.1; omega) (r_isBy ⟨?_, ?_⟩)
  · split
    · exact Or.inr rfl
    · exact Or.inl rfl
  · unfold sPR at hq
    rw [hm, Int.toNat_natCast] at hq
    exact hq
theorem r_ruleOf_9 {s x : XM} {b : Nat} {q : Int → Prop} (h : RF s x) (k : Ok s) (hb : b < nB s) (hq : q (sRu s b)) (p : Nat) : ∀ v3 : Int, v3 = (p : Int) - 1 → p ≤ nR s → M_X11_ruleOf_9 q x (p + 1) (b : Int) (fstR s b (nR s - p) p) v3 := by
  have := k.r
  induction p with
  | zero =>
    intro v3 e hp
    unfold M_X11_ruleOf_9
    exact iT (by omega) hq
  | succ p ih =>
    intro v3 e hp
    unfold M_X11_ruleOf_9
    obtain ⟨r, hr, hl⟩ := k.or (p := p) (by omega)
    refine iF (by omega) ⟨⟨by omega, by omega⟩, ?_⟩
    rw [show (24 + v3).toNat = 24 + p by omega, h.nw (by omega), hr]
    refine r_passesRule h k hl hb ?_
    have ih := ih (v3 + -1) (by omega) (by omega)
    rw [show nR s - p = (nR s - (p + 1)) + 1 by omega] at ih
    unfold fstR at ih
    rw [hr, Int.toNat_natCast] at ih
    by_cases c : sPR s r b = true
    · rw [if_pos c] at ih ⊢
      exact iF (by decide) ⟨⟨by omega, by omega⟩, ⟨by omega, by omega⟩, ih⟩
    · rw [if_neg c] at ih ⊢
      exact iT rfl ⟨⟨by omega, by omega⟩, ih⟩
theorem RF.n {s x : XM} (h : RF s x) : x 83 3 = s 0 0 := h.e 0 0
theorem RF.r {s x : XM} (h : RF s x) : x 83 5 = s 0 1 := h.e 0 1
theorem RF.c {s x : XM} (h : RF s x) : x 83 7 = s 0 2 := h.e 0 2
theorem RF.w {s x : XM} (h : RF s x) : x 83 9 = s 0 3 := h.e 0 3
theorem r_ruleOf {s x : XM} {b : Nat} {q : Int → Prop} (h : RF s x) (k : Ok s) (hb : b < nB s) (hq : q (sRu s b)) : M_X11_ruleOf x (b : Int) q := by
  have := k.r
  unfold M_X11_ruleOf
  rw [h.r]
  refine ⟨⟨by omega, by omega⟩, nR s + 1, ?_⟩
  have := r_ruleOf_9 h k hb hq (nR s) (s 0 1 - 1) (by omega) (by omega)
  rw [Nat.sub_self] at this
  exact this
theorem r_in {x : XM} {a b c : Int} {q : Int → Prop} (hq : q (if b ≤ a ∧ a ≤ c then 1 else 0)) : M_X11_in x a b c q := by
  refine ⟨fun c => ?_, fun c => ⟨fun d => ?_, fun d => ?_⟩⟩
  · rwa [if_neg (by omega)] at hq
  · rwa [if_neg (by omega)] at hq
  · rwa [if_pos (by omega)] at hq
theorem r_heapOf {s x : XM} {b : Nat} {q : Int → Prop} (h : RF s x) (hb : b < 12 ∧ (0 < s 0 0 ∨ 0 < s 0 1)) (hq : q (sHp s b)) : M_X11_heapOf x (b : Int) q := by
  refine ⟨⟨by omega, by omega⟩, ?_⟩
  rw [Int.toNat_natCast, h.nw (by omega)]
  unfold sHp at hq
  refine r_in ?_
  split
  · rename_i c
    rw [if_pos c] at hq
    exact iF (by decide) ⟨⟨by omega, by omega⟩, ⟨by omega, by omega⟩, hq⟩
  · rename_i c
    rw [if_neg c] at hq
    exact iT rfl hq
theorem r_goes {s x : XM} {b : Nat} {q : Int → Prop} (h : RF s x) (k : Ok s) (hb : b < nB s) (hq : q (sGo s b)) : M_X11_goes x (b : Int) q := by
  have := k.r
  refine r_ruleOf h k hb ?_
  unfold sGo at hq
  rcases sRu_ge k b with e | ⟨r, e, hr⟩
  · rw [e] at hq ⊢
    rw [if_pos rfl] at hq
    exact jF rfl hq
  · rw [e] at hq ⊢
    rw [if_neg (by omega), Int.toNat_natCast] at hq
    refine jT (by omega) ⟨⟨by omega, by omega⟩, ?_⟩
    rw [show (4 * (r : Int) + 3).toNat = 4 * r + 3 by omega, h.ru (by omega)]
    exact hq
theorem r_setIn_4 {s x : XM} {q : Int → Prop} {v : Int} (h : RF s x) (k : Ok s) (hq : q ((sSt s v : Nat) : Int)) (n : Nat) : ∀ b, b ≤ nB s → nB s < b + n → M_X11_setIn_4 q x n v ((bts (fun b => decide (s 5 b = v)) b : Nat) : Int) (b : Int) := by
  have := k.n
  induction n with
  | zero => intro b h1 h2; omega
  | succ n ih =>
    intro b h1 h2
    unfold M_X11_setIn_4
    rw [h.n]
    refine ⟨fun c => ?_, fun c => ⟨⟨by omega, by omega⟩, ?_⟩⟩
    · rw [show b = nB s by omega]
      exact hq
    · have ih := ih (b + 1) (by omega) (by omega)
      rw [Int.toNat_natCast, h.nw (by omega)]
      by_cases c1 : s 5 b = v
      · refine jF c1 ⟨rg1 (by omega), ?_⟩
        rw [bts_add (by omega) (by simp [c1])]
        exact ih
      · refine jT c1 ⟨rg1 (by omega), ?_⟩
        have := bts_lt (fun b => decide (s 5 b = v)) b
        have := pow12 (b := b) (by omega)
        rw [jor_0 (by omega)]
        rw [bts_no (by simp [c1])] at ih
        exact ih
theorem r_setIn {s x : XM} {q : Int → Prop} {v : Int} (h : RF s x) (k : Ok s) (hq : q ((sSt s v : Nat) : Int)) : M_X11_setIn x v q := ⟨nB s + 1, r_setIn_4 h k hq (nB s + 1) 0 (by omega) (by omega)⟩
theorem r_those_7 {s x : XM} {q : Int → Prop} {kind : Nat} (h : RF s x) (k : Ok s) (hq : q (if kind = 3 then ((ndiff (2 ^ nR s - 1) (used s (nB s)) : Nat) : Int) else ((bts (pTh s kind) (nB s) : Nat) : Int))) (n : Nat) : ∀ b, b ≤ nB s → nB s < b + n → M_X11_those_7 q x n (kind : Int) ((bts (pTh s kind) b : Nat) : Int) ((used s b : Nat) : Int) (b : Int) := by
  have hn := k.n
  have hr := k.r
  have hp : 2 ^ nR s ≤ 2 ^ 6 := Nat.pow_le_pow_right (by decide) hr.2
  have hp0 : 0 < 2 ^ nR s := Nat.pow_pos (by decide)
  induction n with
  | zero => intro b h1 h2; omega
  | succ n ih =>
    intro b h1 h2
    unfold M_X11_those_7
    rw [h.n, h.r]
    refine ⟨fun c => ?_, fun c => ?_⟩
    · rw [show b = nB s by omega]
      refine ⟨fun d => ?_, fun d => ?_⟩
      · rw [if_neg (by omega)] at hq
        exact hq
      · rw [if_pos (by omega)] at hq
        rw [hr.1, jshl_1 _ (by omega), show ((2 ^ nR s : Nat) : Int) - 1 = ((2 ^ nR s - 1 : Nat) : Int) by omega, jdiff_n (by omega)]
        exact hq
    · have ih := ih (b + 1) (by omega) (by omega)
      have hu := used_lt k b
      have hbl := bts_lt (pTh s kind) b
      have hb12 := pow12 (b := b) (by omega)
      have F : ∀ s0 s1 : Int, jor s1 s0 = ((used s (b + 1) : Nat) : Int) → M_X11_those_39 q (M_X11_those_7 q x n) x (kind : Int) ((bts (pTh s kind) b : Nat) : Int) (b : Int) (sRu s b) s0 s1 := by
        intro s0 s1 e
        have T : ∀ z : Int, (z = 0 ∧ pTh s kind b = false ∨ z = 1 ∧ pTh s kind b = true) → M_X11_those_114 q (M_X11_those_7 q x n) x (kind : Int) ((bts (pTh s kind) b : Nat) : Int) (jor s1 s0) (b : Int) z := by
          intro z hz
          rw [e]
          rcases hz with ⟨hz, ht⟩ | ⟨hz, ht⟩
          · refine iT hz ⟨rg1 (by omega), ?_⟩
            rw [jor_0 (by omega)]
            rw [bts_no ht] at ih
            exact ih
          · refine iF (by omega) ⟨rg1 (by omega), ?_⟩
            rw [bts_add (by omega) ht]
            exact ih
        refine ⟨fun c0 => ⟨fun c1 => ?_, fun c1 => ?_⟩, fun c0 => ?_⟩
        · have ek : ∀ z : Prop, ∀ _ : Decidable z, (¬ sHp s b = -1 ∧ ¬ sHp s b = sGo s b ↔ z) → pTh s kind b = decide z := by
            intro z _ hz
            unfold pTh
            rw [if_neg (by omega), if_neg (by omega), decide_eq_decide]
            exact hz
          refine r_heapOf h (by omega) ⟨fun d => ?_, fun d => ?_⟩
          · exact T 0 (Or.inl ⟨rfl, (ek False _ (by simp [d])).trans rfl⟩)
          · refine r_heapOf h (by omega) (r_goes h k (by omega) ⟨fun d2 => ?_, fun d2 => ?_⟩)
            · exact T 0 (Or.inl ⟨rfl, (ek False _ (by simp [d2])).trans rfl⟩)
            · exact T 1 (Or.inr ⟨rfl, (ek True _ (by simp [d, d2])).trans rfl⟩)
        · have ek : pTh s kind b = decide (sRu s b = -1) := by
            unfold pTh
            rw [if_neg (by omega), if_pos (by omega)]
          refine ⟨fun d => T 0 (Or.inl ⟨rfl, ?_⟩), fun d => T 1 (Or.inr ⟨rfl, ?_⟩)⟩
          · rw [ek]; simp [d]
          · rw [ek]; simp [d]
        · have ek : pTh s kind b = decide (8 ≤ s 5 b) := by
            unfold pTh
            rw [if_pos (by omega)]
          refine ⟨⟨by omega, by omega⟩, ?_⟩
          rw [Int.toNat_natCast, h.nw (by omega)]
          refine ⟨fun d => T 0 (Or.inl ⟨rfl, ?_⟩), fun d => T 1 (Or.inr ⟨rfl, ?_⟩)⟩
          · rw [ek]; simp; omega
          · rw [ek]; simp; omega
      refine r_ruleOf h k (by omega) ?_
      rcases sRu_ge k b with e | ⟨r, e, hl⟩
      · refine jF e (F 0 _ ?_)
        rw [jor_0 (by omega)]
        show _ = ((used s b ||| _ : Nat) : Int)
        rw [if_pos e, Nat.or_zero]
      · refine jT (by omega) (F _ _ ?_)
        have hrl : 2 ^ r < 2 ^ 6 := Nat.pow_lt_pow_right (by decide) (by omega)
        rw [e, jshl_1 r (by omega), jor_n (by omega) (by omega)]
        show _ = ((used s b ||| _ : Nat) : Int)
        rw [if_neg (by omega), e, Int.toNat_natCast]
theorem r_those {s x : XM} {q : Int → Prop} {kind : Nat} (h : RF s x) (k : Ok s) (hq : q (if kind = 3 then ((ndiff (2 ^ nR s - 1) (used s (nB s)) : Nat) : Int) else ((bts (pTh s kind) (nB s) : Nat) : Int))) : M_X11_those x (kind : Int) q := ⟨nB s + 1, r_those_7 h k hq (nB s + 1) 0 (by omega) (by omega)⟩
theorem r_holds {s x : XM} {b : Nat} {q : Int → Prop} (h : RF s x) (k : Ok s) (hb : b < nB s) (hq : q (sHo s b)) : M_X11_holds x (b : Int) q := by
  have hn := k.n
  obtain ⟨_, _, p1, p2⟩ := k.ho hb
  have hbe := k.be (b := b) (by omega)
  refine r_markOf h k hb (m := 0) (by decide) (r_markOf h k hb (m := 1) (by decide) ⟨⟨by omega, by omega⟩, ?_⟩)
  rw [show (12 + (b : Int)).toNat = 12 + b by omega, h.nw (by omega)]
  unfold sHo at hq
  refine ⟨⟨by omega, by omega⟩, ⟨fun c => ?_, fun c => ?_⟩⟩
  · rw [if_pos c] at hq
    exact hq
  · rw [if_neg c] at hq
    exact hq
