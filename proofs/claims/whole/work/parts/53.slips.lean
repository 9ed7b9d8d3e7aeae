/-! ===== slips, undid, child, alike, change ===== -/
def sSl (s : XM) (b c : Nat) : Nat → Nat
  | 0 => 0
  | n + 1 => sSl s b c n + (if sMk s b n = s 3 (4 * c + n) then 0 else 1)
theorem sSl_le (s : XM) (b c : Nat) : ∀ n, sSl s b c n ≤ n
  | 0 => Nat.le_refl 0
  | n + 1 => by
    have := sSl_le s b c n
    unfold sSl
    split <;> omega
theorem c_unlike_5 {s x : XM} {b c : Nat} {q : Int → Prop} (h : CF s x) (k : Ok s) (hb : b < nB s) (hc : c < nC s) (hq : q ((sSl s b c 4 : Nat) : Int)) (n : Nat) : ∀ m, m ≤ 4 → 4 < m + n → M_X0_unlikeMarks_5 q x n (b : Int) (c : Int) ((sSl s b c m : Nat) : Int) (m : Int) := by
  induction n with
  | zero => intro m h1 h2; omega
  | succ n ih =>
    intro m h1 h2
    unfold M_X0_unlikeMarks_5
    refine ⟨fun d => by rw [show m = 4 by omega]; exact hq, fun d => ?_⟩
    have ih := ih (m + 1) (by omega) (by omega)
    have hl := sSl_le s b c m
    unfold sSl at ih
    refine c_mark h k hb (by omega) (c_val3 h k hc (by omega) ⟨fun e => ⟨rg1 (by omega), ?_⟩, fun e => ⟨rg1 (by omega), rg1 (by omega), ?_⟩⟩)
    · rw [if_pos e] at ih
      exact ih
    · rw [if_neg e] at ih
      exact ih
theorem c_unlike {s x : XM} {b c : Nat} {q : Int → Prop} (h : CF s x) (k : Ok s) (hb : b < nB s) (hc : c < nC s) (hq : q ((sSl s b c 4 : Nat) : Int)) : M_X0_unlikeMarks x (b : Int) (c : Int) q := ⟨5, c_unlike_5 h k hb hc hq 5 0 (by omega) (by omega)⟩
theorem r_slipsOf_5 {s x : XM} {b c : Nat} {q : Int → Prop} (h : RF s x) (k : Ok s) (hb : b < nB s) (hc : c < nC s) (hq : q ((sSl s b c 4 : Nat) : Int)) (n : Nat) : ∀ m, m ≤ 4 → 4 < m + n → M_X11_slipsOf_5 q x n (b : Int) (c : Int) ((sSl s b c m : Nat) : Int) (m : Int) := by
  have hcn := k.c
  induction n with
  | zero => intro m h1 h2; omega
  | succ n ih =>
    intro m h1 h2
    unfold M_X11_slipsOf_5
    refine ⟨fun d => by rw [show m = 4 by omega]; exact hq, fun d => ?_⟩
    have ih := ih (m + 1) (by omega) (by omega)
    have hl := sSl_le s b c m
    unfold sSl at ih
    refine r_markOf h k hb (by omega) ⟨⟨by omega, by omega⟩, ?_⟩
    rw [show (4 * (c : Int) + m).toNat = 4 * c + m by omega, h.ca (by omega)]
    refine ⟨fun e => ⟨rg1 (by omega), rg1 (by omega), ?_⟩, fun e => ⟨⟨by omega, by omega⟩, rg1 (by omega), ?_⟩⟩
    · rw [if_neg e] at ih
      exact ih
    · rw [if_pos e] at ih
      exact ih
theorem r_slipsOf {s x : XM} {b c : Nat} {q : Int → Prop} (h : RF s x) (k : Ok s) (hb : b < nB s) (hc : c < nC s) (hq : q ((sSl s b c 4 : Nat) : Int)) : M_X11_slipsOf x (b : Int) (c : Int) q := ⟨5, r_slipsOf_5 h k hb hc hq 5 0 (by omega) (by omega)⟩
def sSli (s : XM) (v1 v2 : Int) : Int := if 0 ≤ v1 ∧ v1 < s 0 0 then (if 0 ≤ v2 ∧ v2 < s 0 2 then ((sSl s v1.toNat v2.toNat 4 : Nat) : Int) else -1000000001) else -1000000001
theorem C_slips {s x : XM} {v1 v2 : Int} {q : Int → Prop} (h : CF s x) (k : Ok s) (hq : q (sSli s v1 v2)) : M_X10_slips x v1 v2 q := by
  have hn := k.n
  have hc := k.c
  refine c_is1 h (isN_i hq (fun b e hb hq => c_is3 h (isN_j hq (fun c e2 hc2 hq => ?_) fun hq => hq)) fun hq => hq)
  subst e e2
  rw [Int.toNat_natCast, Int.toNat_natCast] at hq
  exact c_unlike h k (by omega) (by omega) hq
theorem R_slips {s x : XM} {v1 v2 : Int} {q : Int → Prop} (h : RF s x) (k : Ok s) (hq : q (sSli s v1 v2)) : M_X11_slips x v1 v2 q := by
  have hn := k.n
  have hc := k.c
  refine r_isButton h k (isN_i hq (fun b e hb hq => r_isCause h k (isN_i hq (fun c e2 hc2 hq => ?_) fun hq => hq)) fun hq => hq)
  subst e e2
  rw [Int.toNat_natCast, Int.toNat_natCast] at hq
  exact r_slipsOf h k (by omega) (by omega) hq
/-- the fewest slips among the first n causes -/
def mnS (s : XM) (b : Nat) : Nat → Int
  | 0 => -1
  | n + 1 => if mnS s b n = -1 ∨ ((sSl s b n 4 : Nat) : Int) < mnS s b n then ((sSl s b n 4 : Nat) : Int) else mnS s b n
theorem mnS_p (s : XM) (b : Nat) : ∀ n, (n = 0 ∧ mnS s b n = -1 ∨ 0 < n ∧ 0 ≤ mnS s b n) ∧ mnS s b n ≤ 4 ∧ ∀ c, c < n → mnS s b n ≤ ((sSl s b c 4 : Nat) : Int)
  | 0 => ⟨Or.inl ⟨rfl, rfl⟩, by show (-1 : Int) ≤ 4; decide, fun c hc => by omega⟩
  | n + 1 => by
    obtain ⟨h1, h2, h3⟩ := mnS_p s b n
    have hl := sSl_le s b n 4
    unfold mnS
    split
    · rename_i d
      refine ⟨Or.inr ⟨by omega, by omega⟩, by omega, fun c hc => ?_⟩
      by_cases e : c = n
      · rw [e]; exact Int.le_refl _
      · have := h3 c (by omega)
        omega
    · rename_i d
      refine ⟨Or.inr ⟨by omega, by omega⟩, h2, fun c hc => ?_⟩
      by_cases e : c = n
      · rw [e]; omega
      · exact h3 c (by omega)
theorem c_fewest_4 {s x : XM} {b : Nat} {q : Int → Prop} (h : CF s x) (k : Ok s) (hb : b < nB s) (hq : q (mnS s b (nC s))) (n : Nat) : ∀ c, c ≤ nC s → nC s < c + n → M_X0_fewestSlips_4 q x n (b : Int) (mnS s b c) (c : Int) := by
  have hc := k.c
  induction n with
  | zero => intro c h1 h2; omega
  | succ n ih =>
    intro c h1 h2
    unfold M_X0_fewestSlips_4
    refine c_count3 h ⟨fun d => by rw [show c = nC s by omega]; exact hq, fun d => ?_⟩
    have ih := ih (c + 1) (by omega) (by omega)
    unfold mnS at ih
    refine c_unlike h k hb (by omega) ⟨fun e => ⟨rg1 (by omega), ?_⟩, fun e => ⟨fun f => ⟨rg1 (by omega), ?_⟩, fun f => ⟨rg1 (by omega), ?_⟩⟩⟩
    · rw [if_pos (Or.inl e)] at ih
      exact ih
    · rw [if_neg (by omega)] at ih
      exact ih
    · rw [if_pos (Or.inr (by omega))] at ih
      exact ih
theorem c_causes_5 {s x : XM} {b : Nat} {v : Int} {q : Int → Prop} (h : CF s x) (k : Ok s) (hb : b < nB s) (hq : q ((bts (fun c => decide (((sSl s b c 4 : Nat) : Int) = v)) (nC s) : Nat) : Int)) (n : Nat) : ∀ c, c ≤ nC s → nC s < c + n → M_X0_causesWithSlips_5 q x n (b : Int) v ((bts (fun c => decide (((sSl s b c 4 : Nat) : Int) = v)) c : Nat) : Int) (c : Int) := by
  have hc := k.c
  induction n with
  | zero => intro c h1 h2; omega
  | succ n ih =>
    intro c h1 h2
    unfold M_X0_causesWithSlips_5
    refine c_count3 h ⟨fun d => by rw [show c = nC s by omega]; exact hq, fun d => ?_⟩
    have ih := ih (c + 1) (by omega) (by omega)
    refine c_unlike h k hb (by omega) ⟨fun e => ⟨rg1 (by omega), ?_⟩, fun e => ⟨rg1 (by omega), ?_⟩⟩
    · rw [bts_no (by simp; exact e)] at ih
      exact ih
    · rw [bts_add (by omega) (by simp; exact e)]
      exact ih
def udS (s : XM) (b n : Nat) : Nat := bts (fun c => decide (((sSl s b c 4 : Nat) : Int) = mnS s b n)) n
def sUnd (s : XM) (v1 v2 : Int) : Int := if 0 ≤ v1 ∧ v1 < s 0 0 then (if 0 ≤ v2 ∧ v2 ≤ 2 then (if v2 = 0 then ((udS s v1.toNat (nC s) : Nat) : Int) else if v2 = 1 then mnS s v1.toNat (nC s) else if pcn (udS s v1.toNat (nC s)) 12 = 1 then ((ctz (udS s v1.toNat (nC s)) 12 : Nat) : Int) else -1) else -1000000002) else -1000000001
theorem udS_lt {s : XM} (k : Ok s) (b : Nat) {n : Nat} (hn : n ≤ nC s) : udS s b n < 32 := by
  have := bts_lt (fun c => decide (((sSl s b c 4 : Nat) : Int) = mnS s b n)) n
  have h2 : 2 ^ n ≤ 2 ^ 5 := Nat.pow_le_pow_right (by decide) (by have := k.c; omega)
  unfold udS
  omega
theorem C_undid {s x : XM} {v1 v2 : Int} {q : Int → Prop} (h : CF s x) (k : Ok s) (hq : q (sUnd s v1 v2)) : M_X10_undid x v1 v2 q := by
  have hn := k.n
  refine c_is1 h (isN_j hq (fun b e hb hq => ?_) fun hq => hq)
  subst e
  rw [Int.toNat_natCast] at hq
  refine ⟨fun c => by rw [if_neg (by omega)] at hq; exact hq, fun c => ⟨fun c2 => ⟨nC s + 1, c_fewest_4 h k (by omega) ?_ (nC s + 1) 0 (by omega) (by omega)⟩, fun c2 => by rw [if_neg (by omega)] at hq; exact hq⟩⟩
  rw [if_pos ⟨by omega, c2⟩] at hq
  have hl := udS_lt k b (Nat.le_refl (nC s))
  refine ⟨fun c3 => ⟨nC s + 1, c_causes_5 h k (by omega) ?_ (nC s + 1) 0 (by omega) (by omega)⟩, fun c3 => ?_⟩
  · show (¬ v2 = 0 → M_J6_bitCount_0f7a4 x ((udS s b (nC s) : Nat) : Int) _) ∧ _
    refine ⟨fun c4 => s_bitCount (by omega) ?_, fun c4 => ?_⟩
    · rw [if_neg c4, if_neg c3] at hq
      refine ⟨fun e => ?_, fun e => ?_⟩
      · rw [if_neg (by omega)] at hq
        exact hq
      · rw [if_pos (by omega)] at hq
        have : 0 < udS s b (nC s) := by
          rcases Nat.eq_zero_or_pos (udS s b (nC s)) with z | z
          · rw [z, pcn_0] at e; omega
          · exact z
        exact s_ntz (S := udS s b (nC s)) this (by omega) hq
    · rw [if_pos c4] at hq
      exact hq
  · rw [if_neg (by omega), if_pos c3] at hq
    exact hq
theorem pc1 : ∀ S : Nat, S < 4096 → pcn S 12 = 1 → ∀ a, a < 12 → S.testBit a = true → ctz S 12 = a := all64 (by decide +kernel)
theorem udS_new {s : XM} {b n : Nat} (d : mnS s b n = -1 ∨ ((sSl s b n 4 : Nat) : Int) < mnS s b n) : udS s b (n + 1) = 2 ^ n := by
  obtain ⟨h1, h2, h3⟩ := mnS_p s b n
  have e : mnS s b (n + 1) = ((sSl s b n 4 : Nat) : Int) := by
    show (if _ then _ else _) = _
    rw [if_pos d]
  apply Nat.eq_of_testBit_eq
  intro i
  unfold udS
  rw [bts_bit, Nat.testBit_two_pow, e]
  by_cases c : i = n
  · rw [c]; simp
  · by_cases f : i < n
    · have := h3 i f
      have a : ¬ ((sSl s b i 4 : Nat) : Int) = ((sSl s b n 4 : Nat) : Int) := by omega
      rw [decide_eq_false a, Bool.and_false, decide_eq_false (show ¬ n = i by omega)]
    · rw [decide_eq_false (show ¬ i < n + 1 by omega), Bool.false_and, decide_eq_false (show ¬ n = i by omega)]
theorem udS_old {s : XM} {b n : Nat} (d : ¬ (mnS s b n = -1 ∨ ((sSl s b n 4 : Nat) : Int) < mnS s b n)) : mnS s b (n + 1) = mnS s b n ∧ udS s b (n + 1) = udS s b n + (if ((sSl s b n 4 : Nat) : Int) = mnS s b n then 2 ^ n else 0) := by
  have e : mnS s b (n + 1) = mnS s b n := by
    show (if _ then _ else _) = _
    rw [if_neg d]
  refine ⟨e, ?_⟩
  unfold udS
  rw [e]
  show (bts (fun c => decide (((sSl s b c 4 : Nat) : Int) = mnS s b n)) n + if decide (((sSl s b n 4 : Nat) : Int) = mnS s b n) = true then 2 ^ n else 0) = _
  by_cases f : ((sSl s b n 4 : Nat) : Int) = mnS s b n
  · rw [if_pos f, if_pos (decide_eq_true f)]
  · rw [if_neg f, if_neg (by simp; exact f)]
theorem r_undid_34 {s x : XM} {b : Nat} {v2 : Int} {q : Int → Prop} (h : RF s x) (k : Ok s) (hb : b < nB s) (hv : 0 ≤ v2 ∧ v2 ≤ 2) (hq : q (if v2 = 0 then ((udS s b (nC s) : Nat) : Int) else if v2 = 1 then mnS s b (nC s) else if pcn (udS s b (nC s)) 12 = 1 then ((ctz (udS s b (nC s)) 12 : Nat) : Int) else -1)) (n : Nat) : ∀ (c : Nat) (v5 : Int), c ≤ nC s → nC s < c + n → (c = 0 ∨ ∃ a : Nat, v5 = (a : Int) ∧ a < c ∧ (udS s b c).testBit a = true) → M_X11_undid_34 q x n (b : Int) v2 (mnS s b c) ((udS s b c : Nat) : Int) v5 (c : Int) := by
  have hc := k.c
  induction n with
  | zero => intro c v5 h1 h2; omega
  | succ n ih =>
    intro c v5 h1 h2 h5
    have hl := udS_lt k b h1
    unfold M_X11_undid_34
    rw [h.c]
    refine ⟨fun d => ?_, fun d => ?_⟩
    · rw [show c = nC s by omega] at h5 hl ⊢
      refine ⟨fun c0 => ?_, fun c0 => by rw [if_pos c0] at hq; exact hq⟩
      rw [if_neg c0] at hq
      refine ⟨fun c1 => s_bitsOf (by omega) ?_, fun c1 => by rw [if_pos c1] at hq; exact hq⟩
      rw [if_neg c1] at hq
      refine ⟨fun e => by rw [if_neg (by omega)] at hq; exact hq, fun e => ?_⟩
      rw [if_pos (by omega)] at hq
      rcases h5 with h5 | ⟨a, e1, e2, e3⟩
      · rw [h5] at e
        have : udS s b 0 = 0 := rfl
        rw [this, pcn_0] at e
        omega
      · rw [pc1 _ (by omega) (by omega) a (by omega) e3, ← e1] at hq
        exact hq
    · obtain ⟨p1, p2, p3⟩ := mnS_p s b c
      have hsl := sSl_le s b c 4
      have hp : 2 ^ c ≤ 2 ^ 4 := Nat.pow_le_pow_right (by decide) (by omega)
      have hp0 : 0 < 2 ^ c := Nat.pow_pos (by decide)
      refine r_slipsOf h k hb (by omega) ?_
      have T : ∀ w : Int, (w = v5 ∧ (udS s b (c + 1)).testBit c = false ∧ udS s b (c + 1) = udS s b c ∨ w = c ∧ (udS s b (c + 1)).testBit c = true) → M_X11_undid_107 q (M_X11_undid_34 q x n) x (b : Int) v2 (mnS s b c) ((udS s b (c + 1) : Nat) : Int) (c : Int) ((sSl s b c 4 : Nat) : Int) w := by
        intro w hw
        have ih := ih (c + 1) w (by omega) (by omega) (Or.inr (by
          rcases hw with ⟨e1, e2, e3⟩ | ⟨e1, e2⟩
          · rcases h5 with h5 | ⟨a, f1, f2, f3⟩
            · exfalso
              have : udS s b (c + 1) = 2 ^ c := udS_new (Or.inl (by rw [h5]; rfl))
              rw [this, Nat.testBit_two_pow] at e2
              simp at e2
            · exact ⟨a, by omega, by omega, by rw [e3]; exact f3⟩
          · exact ⟨c, e1, by omega, e2⟩))
        unfold mnS at ih
        refine ⟨fun e => ⟨rg1 (by omega), ?_⟩, fun e => ⟨fun f => ⟨rg1 (by omega), ?_⟩, fun f => ⟨rg1 (by omega), ?_⟩⟩⟩
        · rw [if_pos (Or.inl e)] at ih
          exact ih
        · rw [if_neg (by omega)] at ih
          exact ih
        · rw [if_pos (Or.inr (by omega))] at ih
          exact ih
      have U : ∀ S : Nat, S = udS s b (c + 1) → ((udS s b (c + 1)).testBit c = false → udS s b (c + 1) = udS s b c) → M_X11_undid_88 q (M_X11_undid_34 q x n) x (b : Int) v2 (mnS s b c) v5 (c : Int) ((sSl s b c 4 : Nat) : Int) (S : Int) := by
        intro S eS hS
        rw [eS]
        have hl1 := udS_lt k b (n := c + 1) (by omega)
        refine s_has (by omega) (by omega) ?_
        by_cases e : (udS s b (c + 1)).testBit c = true
        · rw [if_pos e]
          exact iF (by decide) (T _ (Or.inr ⟨rfl, e⟩))
        · rw [if_neg e]
          have e := Bool.eq_false_iff.2 e
          exact iT rfl (T _ (Or.inl ⟨rfl, e, hS e⟩))
      have N : (mnS s b c = -1 ∨ ((sSl s b c 4 : Nat) : Int) < mnS s b c) → M_X11_undid_63 q (M_X11_undid_34 q x n) x (b : Int) v2 (mnS s b c) v5 (c : Int) ((sSl s b c 4 : Nat) : Int) := by
        intro e
        unfold M_X11_undid_63
        rw [jshl_1 c (by omega)]
        refine U _ (udS_new e).symm fun f => ?_
        rw [udS_new e, Nat.testBit_two_pow] at f
        simp at f
      refine ⟨fun e => N (Or.inl e), fun e => ⟨fun f => ?_, fun f => N (Or.inr (by omega))⟩⟩
      have o := udS_old (s := s) (b := b) (n := c) (by omega)
      refine ⟨fun g => U _ ?_ fun _ => ?_, fun g => ?_⟩
      · rw [o.2, if_neg g, Nat.add_zero]
      · rw [o.2, if_neg g, Nat.add_zero]
      · have o2 := o.2
        rw [if_pos g] at o2
        have hlt : udS s b c < 2 ^ c := bts_lt _ _
        have eo : udS s b c ||| 2 ^ c = udS s b c + 2 ^ c := bts_or _ _
        rw [jshl_1 c (by omega), jor_n (by omega) (by omega)]
        refine U _ (by rw [o2, eo]) fun f2 => ?_
        rw [o2, ← eo, Nat.testBit_or, Nat.testBit_two_pow] at f2
        simp at f2
theorem R_undid {s x : XM} {v1 v2 : Int} {q : Int → Prop} (h : RF s x) (k : Ok s) (hq : q (sUnd s v1 v2)) : M_X11_undid x v1 v2 q := by
  have hn := k.n
  refine r_isButton h k (isN_j hq (fun b e hb hq => r_in ?_) fun hq => hq)
  subst e
  rw [Int.toNat_natCast] at hq
  by_cases c : 0 ≤ v2 ∧ v2 ≤ 2
  · rw [if_pos c] at hq ⊢
    exact jT (by decide) ⟨nC s + 1, r_undid_34 h k (by omega) c hq (nC s + 1) 0 (-1) (by omega) (by omega) (Or.inl rfl)⟩
  · rw [if_neg c] at hq ⊢
    exact jF rfl hq
def chd (e : Int) : Nat → Int64 → Int64
  | 0, w => w
  | n + 1, w => chd e n ((w * (ji2l (100 - e))) / 100)
def sChi (s : XM) (v : Int) : Int := if 0 ≤ v ∧ v ≤ 60 then jl2i (chd (s 0 4) v.toNat 1000000000) else -1000000002
theorem c_child_20 {s x : XM} {v : Nat} {q : Int → Prop} (h : CF s x) (hv : v ≤ 60) (n : Nat) : ∀ (i : Nat) (w : Int64), i ≤ v → v < i + n → q (jl2i (chd (s 0 4) (v - i) w)) → M_X10_child_20 q x n (v : Int) w (i : Int) := by
  induction n with
  | zero => intro i w h1 h2; omega
  | succ n ih =>
    intro i w h1 h2 hq
    unfold M_X10_child_20
    refine ⟨fun c => ?_, fun c => c_errs h ⟨rg1 (by omega), ih (i + 1) _ (by omega) (by omega) ?_⟩⟩
    · rw [show v - i = 0 by omega] at hq
      exact hq
    · rw [show v - i = (v - (i + 1)) + 1 by omega] at hq
      exact hq
theorem r_child_20 {s x : XM} {v : Nat} {q : Int → Prop} (h : RF s x) (hv : v ≤ 60) (n : Nat) : ∀ (i : Nat) (w : Int64), i ≤ v → v < i + n → q (jl2i (chd (s 0 4) (v - i) w)) → M_X11_child_20 q x n (v : Int) w (i : Int) := by
  induction n with
  | zero => intro i w h1 h2; omega
  | succ n ih =>
    intro i w h1 h2 hq
    unfold M_X11_child_20
    rw [show x 83 2 = s 0 4 from h.e 0 4]
    refine ⟨fun c => ?_, fun c => ⟨rg1 (by omega), ih (i + 1) _ (by omega) (by omega) ?_⟩⟩
    · rw [show v - i = 0 by omega] at hq
      exact hq
    · rw [show v - i = (v - (i + 1)) + 1 by omega] at hq
      exact hq
theorem C_child {s x : XM} {v : Int} {q : Int → Prop} (h : CF s x) (hq : q (sChi s v)) : M_X10_child x v q := by
  unfold sChi at hq
  refine ⟨fun c => by rw [if_neg (by omega)] at hq; exact hq, fun c => ⟨fun c2 => ?_, fun c2 => by rw [if_neg (by omega)] at hq; exact hq⟩⟩
  rw [if_pos ⟨by omega, c2⟩] at hq
  obtain ⟨n, rfl⟩ : ∃ n : Nat, v = n := ⟨v.toNat, by omega⟩
  rw [Int.toNat_natCast] at hq
  exact ⟨n + 1, c_child_20 h (by omega) (n + 1) 0 _ (by omega) (by omega) hq⟩
theorem R_child {s x : XM} {v : Int} {q : Int → Prop} (h : RF s x) (hq : q (sChi s v)) : M_X11_child x v q := by
  unfold sChi at hq
  refine r_in ?_
  by_cases c : 0 ≤ v ∧ v ≤ 60
  · rw [if_pos c] at hq ⊢
    obtain ⟨n, rfl⟩ : ∃ n : Nat, v = n := ⟨v.toNat, by omega⟩
    rw [Int.toNat_natCast] at hq
    exact jT (by decide) ⟨n + 1, r_child_20 h (by omega) (n + 1) 0 _ (by omega) (by omega) hq⟩
  · rw [if_neg c] at hq ⊢
    exact jF rfl hq
