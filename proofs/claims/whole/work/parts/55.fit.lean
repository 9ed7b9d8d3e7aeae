/-! ===== fit, tells ===== -/
theorem RF.scr {s x y : XM} (h : RF s x) (hy : ∀ k, 84 ≤ k → ¬ (89 ≤ k ∧ k < 93) → ¬ (98 ≤ k ∧ k < 101) → y k = x k) (hf : ∀ j, (j = 1 ∨ j = 2 ∨ j = 3 ∨ j = 5 ∨ j = 7 ∨ j = 9 ∨ j = 20 ∨ j = 21 ∨ j = 27 ∨ j = 31 ∨ j = 38) → y 83 j = x 83 j) : RF s y := by
  refine h.g (fun k hk => hy k (by omega) (by omega) (by omega)) (fun j hj => hf j (by omega)) (fun _ _ _ => rfl) ?_ ?_ ?_ ?_ ?_ ?_ ?_ ?_ ?_ ?_ ?_
  · rw [hf 27 (by decide)]; exact h.e 0 8
  · rw [hf 38 (by decide)]; exact h.e 0 9
  · rw [hf 31 (by decide)]; exact h.e 0 10
  · rw [hy 97 (by decide) (by decide) (by decide)]; exact h.e 0 11
  · rw [hy 97 (by decide) (by decide) (by decide)]; exact h.e 0 12
  · exact rs5 h (fun j hj => hf j (by omega)) (hy _ (by decide) (by decide) (by decide))
  · exact rs6 h (fun j hj => hf j (by omega)) (hf _ (by decide)) (hy _ (by decide) (by decide) (by decide))
  · exact rs7 h (fun j hj => hf j (by omega)) (hy _ (by decide) (by decide) (by decide)) (hy _ (by decide) (by decide) (by decide))
  · exact rs9 h (hf _ (by decide)) (hy _ (by decide) (by decide) (by decide))
  · exact rs10 h (hf _ (by decide)) (hy _ (by decide) (by decide) (by decide))
  · exact rs11 h (hy _ (by decide) (by decide) (by decide)) (hy _ (by decide) (by decide) (by decide))
theorem CF.scr {s x y : XM} (h : CF s x) (hy : ∀ k, k < 83 → ¬ (64 ≤ k ∧ k < 72) → y k = x k) : CF s y := by
  refine h.g (fun k hk => hy k (by omega) (by omega)) ⟨fun kc hk => ?_, by rw [hy 10 (by decide) (by decide)]; exact h.2.2.2.1, by rw [hy 10 (by decide) (by decide)]; exact h.2.2.2.2⟩ (fun _ _ _ => rfl) ?_ ?_ ?_ ?_ ?_ ?_ ?_ ?_ ?_ ?_ ?_
  · have := lay2' hk
    unfold CK
    rw [hy (kc + 1) (by omega) (by omega), hy kc (by omega) (by omega)]
    exact h.2.2.1 kc hk
  · rw [hy 10 (by decide) (by decide)]; exact h.e 0 8
  · rw [hy 60 (by decide) (by decide)]; exact h.e 0 9
  · rw [hy 63 (by decide) (by decide)]; exact h.e 0 10
  · rw [hy 75 (by decide) (by decide)]; exact h.e 0 11
  · rw [hy 79 (by decide) (by decide)]; exact h.e 0 12
  · exact cs5 h (fun k hk => hy k (by omega) (by omega)) (hy _ (by decide) (by decide)) (hy _ (by decide) (by decide)) (hy _ (by decide) (by decide))
  · exact cs6 h (fun k hk => hy k (by omega) (by omega)) (hy _ (by decide) (by decide)) fun k h1 h2 => hy _ (by omega) (by omega)
  · exact cs7 h (fun k hk => hy k (by omega) (by omega)) fun k h1 h2 => hy k (by omega) (by omega)
  · exact cs9 h (hy _ (by decide) (by decide)) (hy _ (by decide) (by decide))
  · exact cs10 h (hy _ (by decide) (by decide)) (hy _ (by decide) (by decide))
  · exact cs11 h fun k h1 h2 => hy _ (by omega) (by omega)
def sPs (s : XM) (w b : Nat) : Bool := sBy ((w : Int) / 10 % 3) ((w : Int) % 10) (sMk s b (w / 30))
def pS (s : XM) (w : Nat) : Nat := bts (sPs s w) (nB s)
theorem c_passing_4 {s x : XM} {w : Nat} {q : Int → Prop} (h : CF s x) (k : Ok s) (hw : w < 120) (hq : q ((pS s w : Nat) : Int)) (n : Nat) : ∀ b, b ≤ nB s → nB s < b + n → M_X4_passing_4 q x n (w : Int) ((bts (sPs s w) b : Nat) : Int) (b : Int) := by
  have hn := k.n
  induction n with
  | zero => intro b h1 h2; omega
  | succ n ih =>
    intro b h1 h2
    unfold M_X4_passing_4
    refine c_count1 h ⟨fun c => by rw [show b = nB s by omega]; exact hq, fun c => ⟨by omega, ?_⟩⟩
    have ih := ih (b + 1) (by omega) (by omega)
    rw [show (w : Int) / 30 = ((w / 30 : Nat) : Int) by omega]
    refine c_mark h k (by omega) (by omega) ⟨by omega, by omega, by omega, c_passes ?_⟩
    by_cases d : sPs s w b = true
    · have d' : sBy ((w : Int) / 10 % 3) ((w : Int) % 10) (sMk s b (w / 30)) = true := d
      rw [if_pos d']
      refine iF (by decide) ⟨rg1 (by omega), ?_⟩
      rw [bts_add (by omega) d]
      exact ih
    · have d' : ¬ sBy ((w : Int) / 10 % 3) ((w : Int) % 10) (sMk s b (w / 30)) = true := d
      rw [if_neg d']
      refine iT rfl ⟨rg1 (by omega), ?_⟩
      rw [bts_no (Bool.eq_false_iff.2 d)] at ih
      exact ih
theorem c_passing {s x : XM} {w : Nat} {q : Int → Prop} (h : CF s x) (k : Ok s) (hw : w < 120) (hq : q ((pS s w : Nat) : Int)) : M_X4_passing x (w : Int) q := ⟨nB s + 1, c_passing_4 h k hw hq (nB s + 1) 0 (by omega) (by omega)⟩
theorem r_passes {s x : XM} {w b : Nat} {q : Int → Prop} (h : RF s x) (k : Ok s) (hw : w < 120) (hb : b < nB s) (hq : q (if sPs s w b then 1 else 0)) : M_X11_passes x (w : Int) (b : Int) q := by
  refine ⟨by omega, by omega, by omega, by omega, ?_⟩
  rw [show (w : Int) / 30 = ((w / 30 : Nat) : Int) by omega]
  refine r_markOf h k hb (by omega) (r_isBy ⟨?_, hq⟩)
  split
  · exact Or.inr rfl
  · exact Or.inl rfl
def fitN (s : XM) (g : Int) (w : Nat) : Nat → Bool
  | 0 => true
  | n + 1 => fitN s g w n && (decide (sHp s n = -1) || (sPs s w n == decide (sHp s n = g)))
theorem fitN_iff (s : XM) (g : Int) (w : Nat) : ∀ n, fitN s g w n = true ↔ ∀ b, b < n → sHp s b = -1 ∨ (sPs s w b = decide (sHp s b = g))
  | 0 => ⟨fun _ b hb => by omega, fun _ => rfl⟩
  | n + 1 => by
    have ih := fitN_iff s g w n
    unfold fitN
    rw [Bool.and_eq_true, ih, Bool.or_eq_true, decide_eq_true_eq, beq_iff_eq]
    constructor
    · intro h b hb
      by_cases c : b = n
      · rw [c]; exact h.2
      · exact h.1 b (by omega)
    · intro h
      exact ⟨fun b hb => h b (by omega), h n (by omega)⟩
/-- the class's two sets -/
def hpS (s : XM) : Nat := bts (fun b => decide (¬ sHp s b = -1)) (nB s)
theorem hp_iff {s : XM} {b : Nat} {g : Int} (hg : 0 ≤ g ∧ g < 6) : sHp s b = g ↔ s 5 b = 1 + g := by
  unfold sHp
  split <;> omega
theorem fit_eq {s : XM} (k : Ok s) {g : Int} (hg : 0 ≤ g ∧ g < 6) (w : Nat) : fitN s g w (nB s) = true ↔ ndiff (sSt s (1 + g)) (pS s w) = 0 ∧ ndiff (hpS s) (sSt s (1 + g)) &&& pS s w = 0 := by
  have b1 : ∀ b, (sSt s (1 + g)).testBit b = (decide (b < nB s) && decide (s 5 b = 1 + g)) := fun b => bts_bit _ _ _
  have b2 : ∀ b, (pS s w).testBit b = (decide (b < nB s) && sPs s w b) := fun b => bts_bit _ _ _
  have b3 : ∀ b, (hpS s).testBit b = (decide (b < nB s) && decide (¬ sHp s b = -1)) := fun b => bts_bit _ _ _
  rw [fitN_iff]
  constructor
  · intro h
    constructor
    · apply Nat.eq_of_testBit_eq
      intro i
      rw [ndiff_bit, b1, b2, Nat.zero_testBit]
      by_cases c : i < nB s
      · have := h i c
        by_cases d : s 5 i = 1 + g
        · have e := (hp_iff (s := s) (b := i) hg).2 d
          rw [e, decide_eq_true rfl] at this
          rcases this with z | z
          · omega
          · rw [z]; simp [c]
        · simp [d]
      · simp [c]
    · apply Nat.eq_of_testBit_eq
      intro i
      rw [Nat.testBit_and, ndiff_bit, b1, b2, b3, Nat.zero_testBit]
      by_cases c : i < nB s
      · rcases h i c with z | z
        · simp [z]
        · by_cases d : s 5 i = 1 + g
          · simp [d, c]
          · have e : ¬ sHp s i = g := fun e => d ((hp_iff hg).1 e)
            rw [z]; simp [e]
      · simp [c]
  · intro ⟨h1, h2⟩ b hb
    by_cases e0 : sHp s b = -1
    · exact Or.inl e0
    · right
      have t1 : (ndiff (sSt s (1 + g)) (pS s w)).testBit b = Nat.testBit 0 b := by rw [h1]
      have t2 : (ndiff (hpS s) (sSt s (1 + g)) &&& pS s w).testBit b = Nat.testBit 0 b := by rw [h2]
      rw [ndiff_bit, b1, b2, Nat.zero_testBit] at t1
      rw [Nat.testBit_and, ndiff_bit, b1, b2, b3, Nat.zero_testBit] at t2
      by_cases d : s 5 b = 1 + g
      · have e := (hp_iff (s := s) (b := b) hg).2 d
        rw [decide_eq_true e]
        simp [hb, d] at t1
        exact t1
      · have e : ¬ sHp s b = g := fun e => d ((hp_iff hg).1 e)
        rw [decide_eq_false e]
        simp [hb, d, e0] at t2
        exact t2
theorem c_hp {s x : XM} {q : Int → Prop} (h : CF s x) (k : Ok s) (hq : q ((hpS s : Nat) : Int)) : M_X0_from x 0 6 q := by
  refine c_from h k ?_
  have e : bts (fun b => decide (0 ≤ x 5 b ∧ x 5 b < 6)) (nB s) = hpS s := by
    refine bts_cong fun i hi => ?_
    have := k.n
    obtain ⟨h1, h2⟩ := h.pl (b := i) (by omega)
    show decide _ = decide _
    rw [decide_eq_decide]
    unfold sHp
    rw [h1]
    unfold enc
    split <;> (try split) <;> (try split) <;> omega
  rw [e]
  exact hq
theorem c_fits {s x : XM} {g : Int} {w : Nat} {q : Int → Prop} (k : Ok s) (hg : 0 ≤ g ∧ g < 6) (hq : q (if fitN s g w (nB s) then 1 else 0)) : M_X4_fits x ((pS s w : Nat) : Int) ((sSt s (1 + g) : Nat) : Int) ((ndiff (hpS s) (sSt s (1 + g)) : Nat) : Int) q := by
  have h12 := pow12 k.n.2
  have l1 : pS s w < 2 ^ nB s := bts_lt _ _
  have l2 := sSt_lt (s := s) (1 + g)
  have l3 : hpS s < 2 ^ nB s := bts_lt _ _
  have l4 : ndiff (hpS s) (sSt s (1 + g)) < 2 ^ nB s := ndiff_lt l3
  have fe := fit_eq k hg w
  unfold M_X4_fits
  rw [jdiff_n (by omega), jand_n (by omega)]
  refine ⟨fun c => ?_, fun c => ⟨fun d => ?_, fun d => ?_⟩⟩
  · rwa [if_neg (fun e => c (by have := (fe.1 e).1; omega))] at hq
  · rwa [if_neg (fun e => d (by have := (fe.1 e).2; omega))] at hq
  · rwa [if_pos (fe.2 ⟨by omega, by omega⟩)] at hq
/-- the v-th for which f, or how many -/
def kth (f : Nat → Bool) (v : Int) : Nat → Nat → Nat → Int
  | 0, _, c => if v = -1 then (c : Int) else -1
  | n + 1, w, c => if f w then (if (c : Int) = v then (w : Int) else kth f v n (w + 1) (c + 1)) else kth f v n (w + 1) c
theorem c_fitFor_31 {s x : XM} {g v : Int} {q : Int → Prop} (h : CF s x) (k : Ok s) (hg : 0 ≤ g ∧ g < 6) (n : Nat) : ∀ w c : Nat, w ≤ 120 → 120 < w + n → c ≤ w → q (kth (fun w => fitN s g w (nB s)) v (120 - w) w c) → M_X4_fitFor_31 q x n v ((sSt s (1 + g) : Nat) : Int) ((ndiff (hpS s) (sSt s (1 + g)) : Nat) : Int) (c : Int) (w : Int) := by
  induction n with
  | zero => intro w c h1 h2; omega
  | succ n ih =>
    intro w c h1 h2 hc hq
    unfold M_X4_fitFor_31
    refine ⟨fun d => ?_, fun d => c_passing h k (by omega) (c_fits k hg ?_)⟩
    · rw [show 120 - w = 0 by omega] at hq
      unfold kth at hq
      have := ifs hq (fun _ hq => hq) fun _ hq => hq
      exact ⟨this.2, this.1⟩
    · rw [show 120 - w = (120 - (w + 1)) + 1 by omega] at hq
      unfold kth at hq
      by_cases e : fitN s g w (nB s) = true
      · rw [if_pos e] at hq ⊢
        refine iF (by decide) ⟨fun f => ?_, fun f => ?_⟩
        · rw [if_neg f] at hq
          exact ⟨rg1 (by omega), rg1 (by omega), ih (w + 1) (c + 1) (by omega) (by omega) (by omega) hq⟩
        · rw [if_pos f] at hq
          exact hq
      · rw [if_neg e] at hq ⊢
        exact iT rfl ⟨rg1 (by omega), ih (w + 1) c (by omega) (by omega) (by omega) hq⟩
def sFit (s : XM) (g v : Int) : Int := if 0 ≤ g ∧ g < 6 then (if sSt s (1 + g) = 0 then -1000000003 else kth (fun w => fitN s g w (nB s)) v 120 0 0) else -1000000002
theorem C_fit {s x : XM} {g v : Int} {q : Int → Prop} (h : CF s x) (k : Ok s) (hq : q (sFit s g v)) : M_X10_fit x g v q := by
  have h12 := pow12 k.n.2
  refine c_isHeap (isN_j hq (fun w e hw hq => ?_) fun hq => hq)
  have hg : 0 ≤ g ∧ g < 6 := ⟨by omega, by omega⟩
  have l3 : hpS s < 2 ^ nB s := bts_lt _ _
  refine c_at h k ⟨by omega, by omega⟩ ?_
  rw [enc_h hg]
  refine ⟨fun c => c_at h k ⟨by omega, by omega⟩ (c_hp h k ⟨121, ?_⟩), fun c => by rw [if_pos (by omega)] at hq; exact hq⟩
  rw [if_neg (by omega)] at hq
  rw [enc_h hg, jdiff_n (by omega)]
  exact c_fitFor_31 h k hg 121 0 0 (by omega) (by omega) (by omega) hq
def cn (f : Nat → Bool) : Nat → Nat
  | 0 => 0
  | n + 1 => cn f n + (if f n then 1 else 0)
theorem cn_le (f : Nat → Bool) : ∀ n, cn f n ≤ n
  | 0 => Nat.le_refl 0
  | n + 1 => by
    have := cn_le f n
    unfold cn
    split <;> omega
/-- the reference has measured the rules below w -/
def Ms (s : XM) (g : Int) (x y : XM) (w : Nat) : Prop := RF s y ∧ (∀ k, k ≠ 83 → k ≠ 98 → y k = x k) ∧ (∀ u, u < w → y 98 u = if fitN s g u (nB s) then 1 else 0) ∧ y 83 33 = ((cn (fun u => fitN s g u (nB s)) w : Nat) : Int)
theorem r_measure_18 {s x y : XM} {g : Int} {w : Nat} {q : XM → Prop} {K7 : XM → Int → Int → Prop} (k : Ok s) (hw : w < 120) (hy : Ms s g x y w) (hK : ∀ z, Ms s g x z (w + 1) → K7 z g ((w : Int) + 1)) (n : Nat) : ∀ b, b ≤ nB s → nB s < b + n → M_X11_measure_18 q K7 n y g (w : Int) (if fitN s g w b then 1 else 0) (b : Int) := by
  have hn := k.n
  obtain ⟨h, fy, f98, f33⟩ := hy
  have hcl := cn_le (fun u => fitN s g u (nB s)) w
  induction n with
  | zero => intro b h1 h2; omega
  | succ n ih =>
    intro b h1 h2
    unfold M_X11_measure_18
    rw [h.n]
    refine ⟨fun c => ⟨⟨by omega, by omega⟩, by split <;> simp, fun x6 e6 => ?_⟩, fun c => ?_⟩
    · have eb : b = nB s := by omega
      subst eb
      rw [Int.toNat_natCast] at e6
      have g33 : x6 83 33 = ((cn (fun u => fitN s g u (nB s)) w : Nat) : Int) := by rw [e6, uX_k (by decide), f33]
      rw [g33]
      have F : ∀ z : XM, z = uX x6 83 33 ((cn (fun u => fitN s g u (nB s)) (w + 1) : Nat) : Int) → Ms s g x z (w + 1) := by
        intro z ez
        have a1 : ∀ k, k ≠ 83 → k ≠ 98 → z k = y k := fun k h1 h2 => by rw [ez, uX_k h1, e6, uX_k h2]
        refine ⟨h.scr (fun k h1 h2 h3 => a1 k (by omega) (by omega)) (fun j hj => ?_), fun k h1 h2 => (a1 k h1 h2).trans (fy k h1 h2), fun u hu => ?_, ?_⟩
        · rw [ez, uX_j (by omega), e6, uX_k (by decide)]
        · rw [ez, uX_k (by decide), e6, uX_at]
          by_cases d : u = w
          · rw [if_pos d, d]
          · rw [if_neg d]; exact f98 u (by omega)
        · rw [ez, uX_eq]
      have ec : cn (fun u => fitN s g u (nB s)) (w + 1) = cn (fun u => fitN s g u (nB s)) w + (if fitN s g w (nB s) then 1 else 0) := rfl
      by_cases d : fitN s g w (nB s) = true
      · rw [if_pos d] at ec
        rw [if_pos d]
        refine iF (by decide) ⟨rg1 (by omega), fun z ez => ⟨rg1 (by omega), hK z (F z ?_)⟩⟩
        rw [ez, ec]
        rfl
      · rw [if_neg d] at ec
        rw [if_neg d]
        refine iT rfl ⟨⟨by omega, by omega⟩, fun z ez => ⟨rg1 (by omega), hK z (F z ?_)⟩⟩
        rw [ez, ec]
        rfl
    · have ih := ih (b + 1) (by omega) (by omega)
      unfold fitN at ih
      by_cases d : fitN s g w b = true
      · rw [d, Bool.true_and] at ih
        rw [if_pos d]
        refine iF (by decide) (r_heapOf h (by omega) ⟨fun e => ⟨rg1 (by omega), ?_⟩, fun e => r_passes h k hw (by omega) (r_heapOf h (by omega) ?_)⟩)
        · rw [decide_eq_true e, Bool.true_or] at ih
          exact ih
        · rw [decide_eq_false e, Bool.false_or] at ih
          have V : ∀ t : Int, (t = if sHp s b = g then 1 else 0) → M_X11_measure_63 q K7 (M_X11_measure_18 q K7 n) y g (w : Int) (b : Int) t (if sPs s w b then 1 else 0) := by
            intro t ht
            subst ht
            by_cases f : sHp s b = g
            · rw [if_pos f]
              rw [decide_eq_true f] at ih
              cases e2 : sPs s w b
              · rw [e2] at ih
                exact jT (by decide) ⟨rg1 (by omega), ih⟩
              · rw [e2] at ih
                exact jF rfl ⟨rg1 (by omega), ih⟩
            · rw [if_neg f]
              rw [decide_eq_false f] at ih
              cases e2 : sPs s w b
              · rw [e2] at ih
                exact jF rfl ⟨rg1 (by omega), ih⟩
              · rw [e2] at ih
                exact jT (by decide) ⟨rg1 (by omega), ih⟩
          exact ⟨fun f => V 0 (by rw [if_neg f]), fun f => V 1 (by rw [if_pos f])⟩
      · have d2 := Bool.eq_false_iff.2 d
        rw [d2, Bool.false_and] at ih
        rw [if_neg d]
        exact iT rfl ⟨rg1 (by omega), ih⟩
theorem r_measure_7 {s x : XM} {g : Int} {q : XM → Prop} (k : Ok s) (hq : ∀ y, Ms s g x y 120 → q y) (n : Nat) : ∀ (w : Nat) (y : XM), w ≤ 120 → 120 < w + n → Ms s g x y w → M_X11_measure_7 q n y g (w : Int) := by
  induction n with
  | zero => intro w y h1 h2; omega
  | succ n ih =>
    intro w y h1 h2 hy
    unfold M_X11_measure_7
    refine ⟨fun c => hq y ?_, fun c => ⟨nB s + 1, ?_⟩⟩
    · rw [show w = 120 by omega] at hy
      exact hy
    · exact r_measure_18 k (by omega) hy (fun z hz => ih (w + 1) z (by omega) (by omega) hz) (nB s + 1) 0 (by omega) (by omega)
theorem r_measure {s x : XM} {g : Int} {q : XM → Prop} (h : RF s x) (k : Ok s) (hq : ∀ y, Ms s g x y 120 → q y) : M_X11_measure x g q := by
  intro y ey
  refine ⟨121, r_measure_7 (x := x) k hq 121 0 y (by omega) (by omega) ⟨h.scr (fun k h1 h2 h3 => by rw [ey, uX_k (by omega)]) (fun j hj => by rw [ey, uX_j (by omega)]), fun k h1 h2 => by rw [ey, uX_k h1], fun u hu => by omega, by rw [ey, uX_eq]; rfl⟩⟩
theorem r_fit_33 {s x y : XM} {g v : Int} {q : Int → XM → Prop} (hy : Ms s g x y 120) (n : Nat) : ∀ w c : Nat, w ≤ 120 → 120 < w + n → c ≤ w → q (kth (fun w => fitN s g w (nB s)) v (120 - w) w c) y → M_X11_fit_33 q n y v (c : Int) (w : Int) := by
  induction n with
  | zero => intro w c h1 h2; omega
  | succ n ih =>
    intro w c h1 h2 hc hq
    unfold M_X11_fit_33
    refine ⟨fun d => ?_, fun d => ⟨⟨by omega, by omega⟩, ?_⟩⟩
    · rw [show 120 - w = 0 by omega] at hq
      unfold kth at hq
      refine ⟨fun e => ?_, fun e => ?_⟩
      · rwa [if_neg e] at hq
      · rwa [if_pos e] at hq
    · rw [show 120 - w = (120 - (w + 1)) + 1 by omega] at hq
      unfold kth at hq
      rw [Int.toNat_natCast, hy.2.2.1 w (by omega)]
      by_cases e : fitN s g w (nB s) = true
      · rw [if_pos e] at hq ⊢
        refine iF (by decide) ⟨fun f => ?_, fun f => ?_⟩
        · rw [if_neg f] at hq
          exact ⟨rg1 (by omega), rg1 (by omega), ih (w + 1) (c + 1) (by omega) (by omega) (by omega) hq⟩
        · rw [if_pos f] at hq
          exact hq
      · rw [if_neg e] at hq ⊢
        exact iT rfl ⟨rg1 (by omega), ih (w + 1) c (by omega) (by omega) (by omega) hq⟩
theorem R_fit {s x : XM} {g v : Int} {q : Int → XM → Prop} (h : RF s x) (k : Ok s) (hq : ∀ y : XM, RF s y → Gr x y → q (sFit s g v) y) : M_X11_fit x g v q := by
  have hq2 : (fun z => ∀ y : XM, RF s y → Gr x y → q z y) (sFit s g v) := hq
  refine r_isHeap (isN_j (q := fun z => ∀ y : XM, RF s y → Gr x y → q z y) hq2 (fun w e hw hq => ⟨⟨by omega, by omega⟩, r_setIn h k ⟨fun c => ?_, fun c => ?_⟩⟩) fun hq => hq x h Gr.rf)
  · have hq : ∀ y : XM, RF s y → Gr x y → q (if sSt s (1 + g) = 0 then -1000000003 else kth (fun w => fitN s g w (nB s)) v 120 0 0) y := hq
    rw [if_neg (by omega)] at hq
    refine r_measure h k fun y hy => ⟨121, r_fit_33 hy 121 0 0 (by omega) (by omega) (by omega) (hq y hy.1 fun k hk => hy.2.1 k (by omega) (by omega))⟩
  · have hq : ∀ y : XM, RF s y → Gr x y → q (if sSt s (1 + g) = 0 then -1000000003 else kth (fun w => fitN s g w (nB s)) v 120 0 0) y := hq
    rw [if_pos (by omega)] at hq
    exact hq x h Gr.rf
