/-! ===== alike, change ===== -/
def lk (s : XM) (a b : Nat) : Nat → Nat → Bool
  | 0, _ => true
  | n + 1, m => decide (sMk s a m = sMk s b m) && lk s a b n (m + 1)
theorem c_like_2 {s x : XM} {a b : Nat} {q : Int → Prop} (h : CF s x) (k : Ok s) (ha : a < nB s) (hb : b < nB s) (n : Nat) : ∀ m, m ≤ 4 → 4 < m + n → q (if lk s a b (4 - m) m then 1 else 0) → M_X0_haveLikeMarks_2 q x n (a : Int) (b : Int) (m : Int) := by
  induction n with
  | zero => intro m h1 h2; omega
  | succ n ih =>
    intro m h1 h2 hq
    unfold M_X0_haveLikeMarks_2
    refine ⟨fun d => ?_, fun d => ?_⟩
    · rw [show 4 - m = 0 by omega] at hq
      exact hq
    · rw [show 4 - m = (4 - (m + 1)) + 1 by omega] at hq
      unfold lk at hq
      refine c_mark h k ha (by omega) (c_mark h k hb (by omega) ⟨fun e => ⟨rg1 (by omega), ih (m + 1) (by omega) (by omega) ?_⟩, fun e => ?_⟩)
      · rw [decide_eq_true e, Bool.true_and] at hq
        exact hq
      · rw [decide_eq_false e, Bool.false_and] at hq
        exact hq
theorem c_like {s x : XM} {a b : Nat} {q : Int → Prop} (h : CF s x) (k : Ok s) (ha : a < nB s) (hb : b < nB s) (hq : q (if lk s a b 4 0 then 1 else 0)) : M_X0_haveLikeMarks x (a : Int) (b : Int) q := ⟨5, c_like_2 h k ha hb 5 0 (by omega) (by omega) hq⟩
def alI (s : XM) (v : Int) (a : Nat) (K : Nat → Int) : Nat → Nat → Nat → Int
  | 0, _, c => K c
  | n + 1, b, c => if lk s a b 4 0 then (if (c : Int) = v then 100 * (a : Int) + b else alI s v a K n (b + 1) (c + 1)) else alI s v a K n (b + 1) c
def alO (s : XM) (v : Int) : Nat → Nat → Nat → Int
  | 0, _, c => if v = -1 then (c : Int) else -1
  | n + 1, a, c => alI s v a (alO s v n (a + 1)) (nB s - (a + 1)) (a + 1) c
theorem c_alike_26 {s x : XM} {v : Int} {a : Nat} {q : Int → Prop} {K14 : Int → Int → Int → Int → Prop} {K : Nat → Int} (h : CF s x) (k : Ok s) (ha : a < nB s) (hK : ∀ c : Nat, c ≤ 12 * (a + 1) → q (K c) → K14 v (nB s : Int) (c : Int) ((a : Int) + 1)) (n : Nat) : ∀ b c : Nat, b ≤ nB s → nB s < b + n → c ≤ 12 * a + b → q (alI s v a K (nB s - b) b c) → M_X10_alike_26 q K14 x n v (nB s : Int) (c : Int) (a : Int) (b : Int) := by
  have hn := k.n
  induction n with
  | zero => intro b c h1 h2; omega
  | succ n ih =>
    intro b c h1 h2 hc hq
    unfold M_X10_alike_26
    refine ⟨fun d => ⟨rg1 (by omega), hK c (by omega) ?_⟩, fun d => ?_⟩
    · rw [show nB s - b = 0 by omega] at hq
      exact hq
    · rw [show nB s - b = (nB s - (b + 1)) + 1 by omega] at hq
      unfold alI at hq
      refine c_like h k ha (by omega) ?_
      by_cases e : lk s a b 4 0 = true
      · rw [if_pos e] at hq ⊢
        refine iF (by decide) ⟨fun f => ?_, fun f => ?_⟩
        · rw [if_neg f] at hq
          exact ⟨rg1 (by omega), rg1 (by omega), ih (b + 1) (c + 1) (by omega) (by omega) (by omega) hq⟩
        · rw [if_pos f] at hq
          exact ⟨⟨by omega, by omega⟩, hq⟩
      · rw [if_neg e] at hq ⊢
        exact iT rfl ⟨rg1 (by omega), ih (b + 1) c (by omega) (by omega) (by omega) hq⟩
theorem c_alike_14 {s x : XM} {v : Int} {q : Int → Prop} (h : CF s x) (k : Ok s) (n : Nat) : ∀ a c : Nat, a ≤ nB s → nB s < a + n → c ≤ 12 * a → q (alO s v (nB s - a) a c) → M_X10_alike_14 q x n v (nB s : Int) (c : Int) (a : Int) := by
  have hn := k.n
  induction n with
  | zero => intro a c h1 h2; omega
  | succ n ih =>
    intro a c h1 h2 hc hq
    unfold M_X10_alike_14
    refine ⟨fun d => ?_, fun d => ⟨rg1 (by omega), nB s + 1, ?_⟩⟩
    · rw [show nB s - a = 0 by omega] at hq
      unfold alO at hq
      have := ifs hq (fun _ hq => hq) fun _ hq => hq
      exact ⟨this.2, this.1⟩
    · rw [show nB s - a = (nB s - (a + 1)) + 1 by omega] at hq
      exact c_alike_26 h k (by omega) (fun c hc hq => ih (a + 1) c (by omega) (by omega) (by omega) hq) (nB s + 1) (a + 1) c (by omega) (by omega) (by omega) hq
theorem C_alike {s x : XM} {v : Int} {q : Int → Prop} (h : CF s x) (k : Ok s) (hq : q (alO s v (nB s) 0 0)) : M_X10_alike x v q := by
  have hn := k.n
  refine c_count1 h ⟨nB s + 1, ?_⟩
  rw [hn.1]
  exact c_alike_14 h k (nB s + 1) 0 0 (by omega) (by omega) (by omega) hq
theorem r_alike_32 {s x : XM} {v : Int} {a b c : Nat} {q : Int → Prop} {K4 : Int → Int → Int → Prop} {K17 : Int → Int → Int → Int → Prop} (h : RF s x) (k : Ok s) (ha : a < nB s) (hb : b < nB s) (hc : c ≤ 200) (f : Nat → Bool) (hf : ∀ m, m ≤ 4 → f m = (lk s a b (4 - m) m)) (h1 : lk s a b 4 0 = true → (c : Int) = v → q (100 * (a : Int) + b)) (h2 : lk s a b 4 0 = true → ¬ (c : Int) = v → K17 v ((c : Int) + 1) a ((b : Int) + 1)) (h3 : lk s a b 4 0 = false → K17 v ((c : Int) + 0) a ((b : Int) + 1)) (n : Nat) : ∀ (m : Nat) (g : Bool), m ≤ 4 → 4 < m + n → lk s a b 4 0 = (g && lk s a b (4 - m) m) → M_X11_alike_32 q K4 K17 x n v (c : Int) (a : Int) (b : Int) (if g then 1 else 0) (m : Int) := by
  have hn := k.n
  induction n with
  | zero => intro m g h1 h2; omega
  | succ n ih =>
    intro m g a1 a2 hg
    unfold M_X11_alike_32
    refine ⟨fun d => ?_, fun d => ?_⟩
    · rw [show 4 - m = 0 by omega] at hg
      unfold lk at hg
      rw [Bool.and_true] at hg
      cases g
      · exact iT rfl (iT rfl ⟨⟨by omega, by omega⟩, rg1 (by omega), h3 hg⟩)
      · refine iF (by decide) ⟨fun e => iF (by decide) ⟨rg1 (by omega), rg1 (by omega), h2 hg e⟩, fun e => ⟨⟨by omega, by omega⟩, h1 hg e⟩⟩
    · rw [show 4 - m = (4 - (m + 1)) + 1 by omega] at hg
      unfold lk at hg
      cases g
      · refine iT rfl ⟨rg1 (by omega), ?_⟩
        exact ih (m + 1) false (by omega) (by omega) (hg.trans (by rw [Bool.false_and, Bool.false_and]))
      · refine iF (by decide) (r_markOf h k ha (by omega) (r_markOf h k hb (by omega) ⟨fun e => ⟨rg1 (by omega), ?_⟩, fun e => ⟨rg1 (by omega), ?_⟩⟩))
        · exact ih (m + 1) false (by omega) (by omega) (hg.trans (by rw [decide_eq_false e, Bool.false_and, Bool.and_false]))
        · exact ih (m + 1) true (by omega) (by omega) (hg.trans (by rw [decide_eq_true e, Bool.true_and]))
theorem r_alike_17 {s x : XM} {v : Int} {a : Nat} {q : Int → Prop} {K4 : Int → Int → Int → Prop} {K : Nat → Int} (h : RF s x) (k : Ok s) (ha : a < nB s) (hK : ∀ c : Nat, c ≤ 12 * (a + 1) → q (K c) → K4 v (c : Int) ((a : Int) + 1)) (n : Nat) : ∀ b c : Nat, b ≤ nB s → nB s < b + n → c ≤ 12 * a + b → q (alI s v a K (nB s - b) b c) → M_X11_alike_17 q K4 x n v (c : Int) (a : Int) (b : Int) := by
  have hn := k.n
  induction n with
  | zero => intro b c h1 h2; omega
  | succ n ih =>
    intro b c h1 h2 hc hq
    unfold M_X11_alike_17
    rw [h.n]
    refine ⟨fun d => ⟨rg1 (by omega), hK c (by omega) ?_⟩, fun d => ⟨5, ?_⟩⟩
    · rw [show nB s - b = 0 by omega] at hq
      exact hq
    · rw [show nB s - b = (nB s - (b + 1)) + 1 by omega] at hq
      unfold alI at hq
      refine r_alike_32 h k ha (by omega) (by omega) (fun m => lk s a b (4 - m) m) (fun _ _ => rfl) (fun e f => ?_) (fun e f => ?_) (fun e => ?_) 5 0 true (by omega) (by omega) (by rw [Bool.true_and])
      · rw [if_pos e, if_pos f] at hq
        exact hq
      · rw [if_pos e, if_neg f] at hq
        exact ih (b + 1) (c + 1) (by omega) (by omega) (by omega) hq
      · rw [if_neg (by rw [e]; decide)] at hq
        rw [Int.add_zero]
        exact ih (b + 1) c (by omega) (by omega) (by omega) hq
theorem r_alike_4 {s x : XM} {v : Int} {q : Int → Prop} (h : RF s x) (k : Ok s) (n : Nat) : ∀ a c : Nat, a ≤ nB s → nB s < a + n → c ≤ 12 * a → q (alO s v (nB s - a) a c) → M_X11_alike_4 q x n v (c : Int) (a : Int) := by
  have hn := k.n
  induction n with
  | zero => intro a c h1 h2; omega
  | succ n ih =>
    intro a c h1 h2 hc hq
    unfold M_X11_alike_4
    rw [h.n]
    refine ⟨fun d => ?_, fun d => ⟨rg1 (by omega), nB s + 1, ?_⟩⟩
    · rw [show nB s - a = 0 by omega] at hq
      unfold alO at hq
      have := ifs hq (fun _ hq => hq) fun _ hq => hq
      exact ⟨this.2, this.1⟩
    · rw [show nB s - a = (nB s - (a + 1)) + 1 by omega] at hq
      exact r_alike_17 h k (by omega) (fun c hc hq => ih (a + 1) c (by omega) (by omega) (by omega) hq) (nB s + 1) (a + 1) c (by omega) (by omega) (by omega) hq
theorem R_alike {s x : XM} {v : Int} {q : Int → Prop} (h : RF s x) (k : Ok s) (hq : q (alO s v (nB s) 0 0)) : M_X11_alike x v q := ⟨nB s + 1, r_alike_4 h k (nB s + 1) 0 0 (by omega) (by omega) (by omega) hq⟩
/-- the nearest change: the best so far, and how far -/
def dst (a b : Int) : Int := if b ≤ a then a - b else b - a
def chg (s : XM) (b : Nat) : Nat → Nat → Int → Int → Int
  | 0, _, B, _ => B
  | n + 1, p, B, D =>
    if dst (sMk s b (s 2 (4 * (s 5 (24 + p)).toNat)).toNat) (s 2 (4 * (s 5 (24 + p)).toNat + 2)) < D
    then chg s b n (p + 1) (10 * s 5 (24 + p) + sMk s b (s 2 (4 * (s 5 (24 + p)).toNat)).toNat) (dst (sMk s b (s 2 (4 * (s 5 (24 + p)).toNat)).toNat) (s 2 (4 * (s 5 (24 + p)).toNat + 2)))
    else chg s b n (p + 1) B D
theorem Ok.mb {s : XM} (k : Ok s) {b m : Nat} (hb : b < nB s) (hm : m < 4) : 0 ≤ sMk s b m ∧ sMk s b m ≤ 9 := by
  obtain ⟨h1, h2, h3, h4⟩ := k.mk hb
  have h5 := k.be (b := b) (by have := k.n; omega)
  unfold sMk
  rcases (show m = 0 ∨ m = 1 ∨ m = 2 ∨ m = 3 by omega) with e | e | e | e <;> subst e
  · show 0 ≤ s 1 (4 * b) ∧ s 1 (4 * b) ≤ 9; omega
  · show 0 ≤ s 1 (4 * b + 1) ∧ s 1 (4 * b + 1) ≤ 9; omega
  · show 0 ≤ s 1 (4 * b + 2) ∧ s 1 (4 * b + 2) ≤ 9; omega
  · show 0 ≤ s 5 (12 + b) ∧ s 5 (12 + b) ≤ 9; omega
theorem s_abs {x : XM} {a b : Int} {q : Int → Prop} (ha : 0 ≤ a ∧ a ≤ 9) (hb : 0 ≤ b ∧ b ≤ 9) (hq : q (dst a b)) : M_J9_abs_0f7a4 x (a - b) q := by
  unfold dst at hq
  refine ⟨fun c => by rw [if_pos (by omega)] at hq; exact hq, fun c => ⟨⟨by omega, by omega⟩, ?_⟩⟩
  rw [if_neg (by omega)] at hq
  rw [show -(a - b) = b - a by omega]
  exact hq
theorem dst_b {a b : Int} (ha : 0 ≤ a ∧ a ≤ 9) (hb : 0 ≤ b ∧ b ≤ 9) : 0 ≤ dst a b ∧ dst a b ≤ 9 := by
  unfold dst
  split <;> omega
theorem c_least_18 {s x : XM} {b : Nat} {q : Int → Prop} (h : CF s x) (k : Ok s) (hb : b < nB s) (n : Nat) : ∀ (p : Nat) (B D E : Int), p ≤ nR s → nR s < p + n → (B = -1 ∧ D = 10 ∨ 0 ≤ B ∧ D = E) → q (chg s b (nR s - p) p B D) → M_X0_leastChange_18 q x n (b : Int) B E (p : Int) := by
  have hr := k.r
  induction n with
  | zero => intro p B D E h1 h2; omega
  | succ n ih =>
    intro p B D E h1 h2 hBD hq
    unfold M_X0_leastChange_18
    refine c_count2 h ⟨fun c => ?_, fun c => ⟨⟨by omega, by omega⟩, ?_⟩⟩
    · rw [show nR s - p = 0 by omega] at hq
      exact hq
    · rw [show nR s - p = (nR s - (p + 1)) + 1 by omega] at hq
      unfold chg at hq
      obtain ⟨r, er, hl⟩ := k.or (p := p) (by omega)
      rw [Int.toNat_natCast, ← h.or (by omega), er]
      rw [er, Int.toNat_natCast] at hq
      have hru := k.ru hl
      obtain ⟨m, hm⟩ : ∃ m : Nat, s 2 (4 * r) = (m : Int) := ⟨(s 2 (4 * r)).toNat, by have := hru.1; omega⟩
      rw [hm, Int.toNat_natCast] at hq
      refine c_val2 h k hl (m := 0) (by decide) ?_
      show M_X0_mark x b (s 2 (4 * r)) _
      rw [hm]
      have hm4 : m < 4 := by have := hru.1; omega
      have hmb := k.mb hb hm4
      have hvb := hru.2.2.1
      have hd := dst_b hmb hvb
      refine c_mark h k hb hm4 (c_val2 h k hl (m := 2) (by decide) ⟨⟨by omega, by omega⟩, s_abs hmb hvb ?_⟩)
      have W : dst (sMk s b m) (s 2 (4 * r + 2)) < D → M_X0_leastChange_88 q (M_X0_leastChange_18 q x n) x (b : Int) (p : Int) (r : Int) (sMk s b m) (dst (sMk s b m) (s 2 (4 * r + 2))) := by
        intro c2
        rw [if_pos c2] at hq
        exact ⟨⟨by omega, by omega⟩, rg1 (by omega), ih (p + 1) _ _ _ (by omega) (by omega) (Or.inr ⟨by omega, rfl⟩) hq⟩
      refine ⟨fun e => W (by omega), fun e => ⟨fun f => ⟨rg1 (by omega), ?_⟩, fun f => W (by omega)⟩⟩
      rw [if_neg (by omega)] at hq
      exact ih (p + 1) B D E (by omega) (by omega) hBD hq
def sChg (s : XM) (v : Int) : Int := if 0 ≤ v ∧ v < s 0 0 then (if sRu s v.toNat = -1 then chg s v.toNat (nR s) 0 (-1) 10 else -1) else -1000000001
theorem C_change {s x : XM} {v : Int} {q : Int → Prop} (h : CF s x) (k : Ok s) (hq : q (sChg s v)) : M_X10_change x v q := by
  have hn := k.n
  refine c_is1 h (isN_i hq (fun b e hb hq => ?_) fun hq => hq)
  subst e
  rw [Int.toNat_natCast] at hq
  refine c_goal h k (by omega) ?_
  rcases sGo_ge k b with ⟨e1, e2⟩ | ⟨⟨g, e1, _⟩, e2⟩
  · rw [if_pos e2] at hq
    exact iT e1 ⟨nR s + 1, c_least_18 h k (by omega) (nR s + 1) 0 (-1) 10 0 (by omega) (by omega) (Or.inl ⟨rfl, rfl⟩) hq⟩
  · rw [if_neg e2] at hq
    exact iF (by omega) hq
/-- a value that would do for the rule -/
def Vd (o v m V : Int) : Prop := V ≠ v ∧ sBy o V m = true
theorem r_change_54 {s x : XM} {b p r m : Nat} {B D : Int} {q : Int → Prop} {K30 : Int → Int → Int → Int → Prop} (h : RF s x) (k : Ok s) (hb : b < nB s) (hl : r < nR s) (hp : p < nR s) (hm : s 2 (4 * r) = (m : Int)) (hm4 : m < 4) (hD : D ≤ 10) (hno : sBy (s 2 (4 * r + 1)) (s 2 (4 * r + 2)) (sMk s b m) = false)
    (hK : (dst (sMk s b m) (s 2 (4 * r + 2)) < D → K30 b (10 * (r : Int) + sMk s b m) (dst (sMk s b m) (s 2 (4 * r + 2))) ((p : Int) + 1)) ∧ (¬ dst (sMk s b m) (s 2 (4 * r + 2)) < D → K30 b B D ((p : Int) + 1))) (n : Nat) :
    ∀ (V : Nat) (B' D' : Int), V ≤ 10 → 10 < V + n → (B' = B ∧ D' = D ∧ (∀ W : Nat, W < V → Vd (s 2 (4 * r + 1)) (s 2 (4 * r + 2)) (sMk s b m) W → D ≤ dst W (s 2 (4 * r + 2))) ∨ (∃ W : Nat, W < V ∧ Vd (s 2 (4 * r + 1)) (s 2 (4 * r + 2)) (sMk s b m) W ∧ B' = 10 * (r : Int) + W ∧ D' = dst W (s 2 (4 * r + 2)) ∧ D' < D ∧ ∀ W : Nat, W < V → Vd (s 2 (4 * r + 1)) (s 2 (4 * r + 2)) (sMk s b m) W → D' ≤ dst W (s 2 (4 * r + 2)))) → M_X11_change_54 q K30 x n (b : Int) B' D' (p : Int) (r : Int) (V : Int) := by
  have hr := k.r
  have hru := k.ru hl
  have hmb := k.mb hb hm4
  have hvb := hru.2.2.1
  have hob := hru.2.1
  induction n with
  | zero => intro V B' D' h1 h2; omega
  | succ n ih =>
    intro V B' D' h1 h2 hS
    unfold M_X11_change_54
    refine ⟨fun c => ⟨rg1 (by omega), ?_⟩, fun c => ⟨⟨by omega, by omega⟩, ?_⟩⟩
    · have e10 : V = 10 := by omega
      subst e10
      obtain ⟨M, hM⟩ : ∃ M : Nat, sMk s b m = (M : Int) := ⟨(sMk s b m).toNat, by omega⟩
      have vM : Vd (s 2 (4 * r + 1)) (s 2 (4 * r + 2)) (sMk s b m) M := by
        refine ⟨fun e => ?_, ?_⟩
        · rw [← e, hM] at hno
          unfold sBy at hno
          split at hno
          · simp at hno
          · split at hno
            · simp at hno
            · simp at hno
        · rw [hM]
          unfold sBy
          split
          · simp
          · split
            · simp
            · simp
      have far : ∀ W : Nat, Vd (s 2 (4 * r + 1)) (s 2 (4 * r + 2)) (sMk s b m) W → dst (sMk s b m) (s 2 (4 * r + 2)) ≤ dst W (s 2 (4 * r + 2)) ∧ (dst (sMk s b m) (s 2 (4 * r + 2)) = dst W (s 2 (4 * r + 2)) → (W : Int) = sMk s b m) := by
        intro W hW
        obtain ⟨w1, w2⟩ := hW
        unfold sBy at w2 hno
        unfold dst
        split at w2
        · rw [if_pos (by assumption)] at hno
          simp at w2
          rw [w2]
          exact ⟨Int.le_refl _, fun _ => rfl⟩
        · rw [if_neg (by assumption)] at hno
          split at w2
          · rw [if_pos (by assumption)] at hno
            simp at w2 hno
            split <;> split <;> omega
          · rw [if_neg (by assumption)] at hno
            simp at w2 hno
            split <;> split <;> omega
      rcases hS with ⟨e1, e2, e3⟩ | ⟨W, w1, w2, w3, w4, w5, w6⟩
      · have := e3 M (by omega) vM
        rw [← hM] at this
        rw [e1, e2]
        exact hK.2 (by omega)
      · have f := far W w2
        have g := w6 M (by omega) vM
        rw [← hM] at g
        have e := f.2 (by omega)
        rw [w3, e, w4, e]
        exact hK.1 (by rw [← e, ← w4]; exact w5)
    · have hdb := dst_b (a := (V : Int)) (b := s 2 (4 * r + 2)) (by omega) hvb
      have G : M_X11_change_108 q K30 (M_X11_change_54 q K30 x n) x (b : Int) B' D' (p : Int) (r : Int) (V : Int) (dst V (s 2 (4 * r + 2))) := by
        have N : (¬ Vd (s 2 (4 * r + 1)) (s 2 (4 * r + 2)) (sMk s b m) V ∨ D' ≤ dst V (s 2 (4 * r + 2))) → M_X11_change_54 q K30 x n (b : Int) B' D' (p : Int) (r : Int) ((V : Int) + 1) := by
          intro hn
          refine ih (V + 1) B' D' (by omega) (by omega) ?_
          rcases hS with ⟨e1, e2, e3⟩ | ⟨W, w1, w2, w3, w4, w5, w6⟩
          · refine Or.inl ⟨e1, e2, fun W hW vW => ?_⟩
            by_cases e : W = V
            · subst e
              rcases hn with hn | hn
              · exact absurd vW hn
              · omega
            · exact e3 W (by omega) vW
          · refine Or.inr ⟨W, by omega, w2, w3, w4, w5, fun W hW vW => ?_⟩
            by_cases e : W = V
            · subst e
              rcases hn with hn | hn
              · exact absurd vW hn
              · omega
            · exact w6 W (by omega) vW
        refine ⟨fun c1 => ⟨rg1 (by omega), N (Or.inl fun z => ?_)⟩, fun c1 => ⟨fun c2 => ⟨rg1 (by omega), N (Or.inr c2)⟩, fun c2 => ⟨⟨by omega, by omega⟩, ⟨by omega, by omega⟩, ?_⟩⟩⟩
        · have := z.1
          unfold dst at c1
          split at c1 <;> omega
        · rw [show (4 * (r : Int)).toNat = 4 * r by omega, show (4 * (r : Int) + 1).toNat = 4 * r + 1 by omega, h.ru (by omega), h.ru (by omega), hm]
          refine r_markOf h k hb hm4 (r_isBy ?_)
          by_cases e : sBy (s 2 (4 * r + 1)) V (sMk s b m) = true
          · rw [if_pos e]
            refine iF (by decide) ⟨⟨by omega, by omega⟩, rg1 (by omega), ih (V + 1) _ _ (by omega) (by omega) (Or.inr ⟨V, by omega, ⟨fun z => ?_, e⟩, rfl, rfl, ?_, fun W hW vW => ?_⟩)⟩
            · rw [z] at c1
              unfold dst at c1
              rw [if_pos (Int.le_refl _)] at c1
              omega
            · rcases hS with ⟨e1, e2, e3⟩ | ⟨W, w1, w2, w3, w4, w5, w6⟩ <;> omega
            · by_cases e2 : W = V
              · rw [e2]; exact Int.le_refl _
              · rcases hS with ⟨e1, e2, e3⟩ | ⟨W', w1, w2, w3, w4, w5, w6⟩
                · have := e3 W (by omega) vW
                  omega
                · have := w6 W (by omega) vW
                  omega
          · rw [if_neg e]
            exact iT rfl ⟨rg1 (by omega), N (Or.inl fun z => e z.2)⟩
      rw [show (4 * (r : Int) + 2).toNat = 4 * r + 2 by omega, h.ru (by omega)]
      unfold dst at G
      refine ⟨fun d => ⟨⟨by omega, by omega⟩, ⟨by omega, by omega⟩, ?_⟩, fun d => ⟨⟨by omega, by omega⟩, ⟨by omega, by omega⟩, ?_⟩⟩
      · rw [if_pos d] at G
        exact G
      · rw [if_neg d] at G
        exact G
theorem fst_no {s : XM} {b : Nat} : ∀ n p, fstR s b n p = -1 → (∀ i, p ≤ i → i < p + n → 0 ≤ s 5 (24 + i)) → ∀ i, p ≤ i → i < p + n → sPR s (s 5 (24 + i)).toNat b = false
  | 0, p, _, _, i, h1, h2 => by omega
  | n + 1, p, h, ho, i, h1, h2 => by
    unfold fstR at h
    by_cases c : sPR s (s 5 (24 + p)).toNat b = true
    · rw [if_pos c] at h
      have := ho p (by omega) (by omega)
      omega
    · rw [if_neg c] at h
      by_cases e : i = p
      · rw [e]; exact Bool.eq_false_iff.2 c
      · exact fst_no n (p + 1) h (fun i h1 h2 => ho i (by omega) (by omega)) i (by omega) (by omega)
theorem r_change_30 {s x : XM} {b : Nat} {q : Int → Prop} (h : RF s x) (k : Ok s) (hb : b < nB s) (hno : sRu s b = -1) (n : Nat) : ∀ (p : Nat) (B D : Int), p ≤ nR s → nR s < p + n → D ≤ 10 → q (chg s b (nR s - p) p B D) → M_X11_change_30 q x n (b : Int) B D (p : Int) := by
  have hr := k.r
  induction n with
  | zero => intro p B D h1 h2; omega
  | succ n ih =>
    intro p B D h1 h2 hD hq
    unfold M_X11_change_30
    rw [h.r]
    refine ⟨fun c => ?_, fun c => ⟨⟨by omega, by omega⟩, 11, ?_⟩⟩
    · rw [show nR s - p = 0 by omega] at hq
      exact hq
    · rw [show nR s - p = (nR s - (p + 1)) + 1 by omega] at hq
      unfold chg at hq
      obtain ⟨r, er, hl⟩ := k.or (p := p) (by omega)
      rw [show (24 + (p : Int)).toNat = 24 + p by omega, h.nw (by omega), er]
      rw [er, Int.toNat_natCast] at hq
      have hru := k.ru hl
      obtain ⟨m, hm⟩ : ∃ m : Nat, s 2 (4 * r) = (m : Int) := ⟨(s 2 (4 * r)).toNat, by have := hru.1; omega⟩
      rw [hm, Int.toNat_natCast] at hq
      have hm4 : m < 4 := by have := hru.1; omega
      have hd := dst_b (k.mb hb hm4) hru.2.2.1
      have np := fst_no (nR s) 0 hno (fun i _ hi => by obtain ⟨r, e, _⟩ := k.or (p := i) (by omega); omega) p (by omega) (by omega)
      rw [er, Int.toNat_natCast] at np
      unfold sPR at np
      rw [hm, Int.toNat_natCast] at np
      refine r_change_54 (V := 0) h k hb hl (by omega) hm hm4 hD np ⟨fun c2 => ?_, fun c2 => ?_⟩ 11 B D (by omega) (by omega) (Or.inl ⟨rfl, rfl, fun W hW => by omega⟩)
      · rw [if_pos c2] at hq
        exact ih (p + 1) _ _ (by omega) (by omega) (by omega) hq
      · rw [if_neg c2] at hq
        exact ih (p + 1) _ _ (by omega) (by omega) hD hq
theorem R_change {s x : XM} {v : Int} {q : Int → Prop} (h : RF s x) (k : Ok s) (hq : q (sChg s v)) : M_X11_change x v q := by
  have hn := k.n
  refine r_isButton h k (isN_j hq (fun b e hb hq => ?_) fun hq => hq)
  subst e
  rw [Int.toNat_natCast] at hq
  refine r_ruleOf h k (by omega) ⟨fun e => ?_, fun e => by rw [if_neg e] at hq; exact hq⟩
  rw [if_pos e] at hq
  exact ⟨nR s + 1, r_change_30 h k (by omega) e (nR s + 1) 0 (-1) 10 (by omega) (by omega) (by omega) hq⟩
