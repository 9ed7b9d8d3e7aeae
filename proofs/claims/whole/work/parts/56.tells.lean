/-! ===== tells ===== -/
theorem cn_cong {f g : Nat → Bool} : ∀ n, (∀ u, u < n → f u = g u) → cn f n = cn g n
  | 0, _ => rfl
  | n + 1, h => by
    unfold cn
    rw [cn_cong n (fun u hu => h u (by omega)), h n (by omega)]
def fitT (s : XM) (g : Int) (u : Nat) : Bool := fitN s g u (nB s)
def cb (s : XM) (g : Int) (b w : Nat) : Nat := cn (fun u => fitT s g u && sPs s u b) w
theorem cn_le2 {f g : Nat → Bool} : ∀ n, (∀ u, f u = true → g u = true) → cn f n ≤ cn g n
  | 0, _ => Nat.le_refl 0
  | n + 1, h => by
    have ih := cn_le2 n h
    unfold cn
    by_cases c : f n = true
    · rw [if_pos c, if_pos (h n c)]; omega
    · rw [if_neg c]; omega
theorem cb_le (s : XM) (g : Int) (b w : Nat) : cb s g b w ≤ cn (fitT s g) w := cn_le2 w fun u h => by
  rw [Bool.and_eq_true] at h
  exact h.1
def mxT (a N : Nat) : Int := if (a : Int) < (N : Int) - a then (N : Int) - a else a
def tl (s : XM) (g : Int) : Nat → Int × Int
  | 0 => (-1, ((cn (fitT s g) 120 : Nat) : Int))
  | n + 1 => if s 5 n = 0 ∧ mxT (cb s g n 120) (cn (fitT s g) 120) < (tl s g n).2 then ((n : Int), mxT (cb s g n 120) (cn (fitT s g) 120)) else tl s g n
/-- the class has counted the rules below w -/
def Cn (s : XM) (g : Int) (x y : XM) (w : Nat) : Prop := CF s y ∧ (∀ k, k ≠ 66 → y k = x k) ∧ ∀ b, b < 12 → y 66 b = ((cn (fun u => fitT s g u && (pS s u).testBit b) w : Nat) : Int)
theorem c_count_85 {s x : XM} {g : Int} {w : Nat} {v2 v3 v4 : Int} {q : Int → XM → Prop} {K54 : XM → Int → Int → Int → Int → Prop} (k : Ok s) (hw : w < 120) (hf : fitT s g w = true) (hK : ∀ z, Cn s g x z (w + 1) → K54 z v2 v3 v4 ((w : Int) + 1)) (n : Nat) : ∀ (i : Nat) (y : XM), i ≤ 12 → 12 < i + n → CF s y → (∀ k, k ≠ 66 → y k = x k) → (∀ b, b < 12 → y 66 b = ((cn (fun u => fitT s g u && (pS s u).testBit b) (if b < i then w + 1 else w) : Nat) : Int)) → M_X4_countPassed_85 q K54 n y v2 v3 v4 (w : Int) ((pS s w : Nat) : Int) (i : Int) := by
  have hl : pS s w < 2 ^ nB s := bts_lt _ _
  have h12 := pow12 k.n.2
  induction n with
  | zero => intro i y h1 h2; omega
  | succ n ih =>
    intro i y h1 h2 hy fy f66
    unfold M_X4_countPassed_85
    refine ⟨fun c => ⟨rg1 (by omega), hK y ⟨hy, fy, fun b hb => ?_⟩⟩, fun c => ?_⟩
    · rw [f66 b hb, if_pos (by omega)]
    · rw [Int.toNat_natCast, f66 i (by omega), if_neg (by omega), jbit (by omega) (by omega)]
      have hcl := cn_le (fun u => fitT s g u && (pS s u).testBit i) w
      have ec : cn (fun u => fitT s g u && (pS s u).testBit i) (w + 1) = cn (fun u => fitT s g u && (pS s u).testBit i) w + (if (pS s w).testBit i then 1 else 0) := by
        show cn (fun u => fitT s g u && (pS s u).testBit i) w + (if fitT s g w && (pS s w).testBit i then 1 else 0) = _
        rw [hf, Bool.true_and]
      have ev : ((cn (fun u => fitT s g u && (pS s u).testBit i) w : Nat) : Int) + (if (pS s w).testBit i then 1 else 0) = ((cn (fun u => fitT s g u && (pS s u).testBit i) (w + 1) : Nat) : Int) := by
        rw [ec]
        split <;> omega
      rw [ev]
      have hcl2 := cn_le (fun u => fitT s g u && (pS s u).testBit i) (w + 1)
      refine ⟨⟨by omega, by omega⟩, ⟨by omega, by omega⟩, ⟨by omega, by omega⟩, fun z ez => ⟨rg1 (by omega), ?_⟩⟩
      refine ih (i + 1) z (by omega) (by omega) (hy.scr fun k h1 h2 => by rw [ez, uX_k (by omega)]) (fun k hk => by rw [ez, uX_k hk, fy k hk]) fun b hb => ?_
      rw [ez, uX_at]
      by_cases d : b = i
      · rw [if_pos d, if_pos (by omega), d]
      · rw [if_neg d, f66 b hb]
        by_cases e : b < i
        · rw [if_pos e, if_pos (by omega)]
        · rw [if_neg e, if_neg (by omega)]
theorem c_count_54 {s x : XM} {g : Int} {q : Int → XM → Prop} (k : Ok s) (hg : 0 ≤ g ∧ g < 6) (hq : ∀ y, Cn s g x y 120 → q ((cn (fitT s g) 120 : Nat) : Int) y) (n : Nat) : ∀ (w : Nat) (y : XM), w ≤ 120 → 120 < w + n → Cn s g x y w → M_X4_countPassed_54 q n y ((sSt s (1 + g) : Nat) : Int) ((ndiff (hpS s) (sSt s (1 + g)) : Nat) : Int) ((cn (fitT s g) w : Nat) : Int) (w : Int) := by
  induction n with
  | zero => intro w y h1 h2; omega
  | succ n ih =>
    intro w y h1 h2 hy
    unfold M_X4_countPassed_54
    refine ⟨fun c => ?_, fun c => c_passing hy.1 k (by omega) (c_fits k hg ?_)⟩
    · have e : w = 120 := by omega
      subst e
      exact hq y hy
    · have hcl := cn_le (fitT s g) w
      have ec : cn (fitT s g) (w + 1) = cn (fitT s g) w + (if fitT s g w then 1 else 0) := rfl
      show ((if fitT s g w = true then (1 : Int) else 0) = 0 → _) ∧ (¬ (if fitT s g w = true then (1 : Int) else 0) = 0 → _)
      by_cases e : fitT s g w = true
      · rw [if_pos e] at ec ⊢
        refine iF (by decide) ⟨rg1 (by omega), 13, ?_⟩
        refine c_count_85 k (by omega) e (fun z hz => ?_) 13 0 y (by omega) (by omega) hy.1 hy.2.1 fun b hb => by rw [if_neg (by omega)]; exact hy.2.2 b hb
        have := ih (w + 1) z (by omega) (by omega) hz
        rw [ec] at this
        exact this
      · rw [if_neg e] at ec ⊢
        refine iT rfl ⟨rg1 (by omega), ?_⟩
        have := ih (w + 1) y (by omega) (by omega) ⟨hy.1, hy.2.1, fun b hb => by
          rw [hy.2.2 b hb]
          show _ = ((cn (fun u => fitT s g u && (pS s u).testBit b) w + (if fitT s g w && (pS s w).testBit b then 1 else 0) : Nat) : Int)
          rw [Bool.eq_false_iff.2 e, Bool.false_and]
          rfl⟩
        rw [ec] at this
        exact this
theorem c_count_30 {s x : XM} {v2 v3 : Int} {q : Int → XM → Prop} (hx : CF s x) (hq : ∀ y, CF s y → (∀ k, k ≠ 66 → y k = x k) → (∀ b, b < 12 → y 66 b = 0) → ∃ m, M_X4_countPassed_54 q m y v2 v3 0 0) (n : Nat) : ∀ (i : Nat) (y : XM), i ≤ 12 → 12 < i + n → CF s y → (∀ k, k ≠ 66 → y k = x k) → (∀ b, b < i → y 66 b = 0) → M_X4_countPassed_30 q n y v2 v3 0 (i : Int) := by
  induction n with
  | zero => intro i y h1 h2; omega
  | succ n ih =>
    intro i y h1 h2 hy fy f66
    unfold M_X4_countPassed_30
    refine ⟨fun c => hq y hy fy fun b hb => f66 b (by omega), fun c => ⟨⟨by omega, by omega⟩, fun z ez => ⟨rg1 (by omega), ?_⟩⟩⟩
    rw [Int.toNat_natCast] at ez
    refine ih (i + 1) z (by omega) (by omega) (hy.scr fun k h1 h2 => by rw [ez, uX_k (by omega)]) (fun k hk => by rw [ez, uX_k hk, fy k hk]) fun b hb => ?_
    rw [ez, uX_at]
    by_cases d : b = i
    · rw [if_pos d]
    · rw [if_neg d]; exact f66 b (by omega)
theorem c_countPassed {s x : XM} {g : Int} {q : Int → XM → Prop} (h : CF s x) (k : Ok s) (hg : 0 ≤ g ∧ g < 6) (hq : ∀ y, Cn s g x y 120 → q ((cn (fitT s g) 120 : Nat) : Int) y) : M_X4_countPassed x g q := by
  have h12 := pow12 k.n.2
  have l3 : hpS s < 2 ^ nB s := bts_lt _ _
  refine c_at h k ⟨by omega, by omega⟩ (c_hp h k ⟨13, ?_⟩)
  rw [enc_h hg, jdiff_n (by omega)]
  refine c_count_30 h (fun y hy fy f66 => ⟨121, ?_⟩) 13 0 x (by omega) (by omega) h (fun _ _ => rfl) (fun b hb => by omega)
  exact c_count_54 k hg hq 121 0 y (by omega) (by omega) ⟨hy, fy, f66⟩
theorem c_best_25 {s x y : XM} {g : Int} {q : Int → XM → Prop} (k : Ok s) (hy : Cn s g x y 120) (hq : q (tl s g (nB s)).1 y) (n : Nat) : ∀ b, b ≤ nB s → nB s < b + n → M_X4_bestTeller_25 q n y ((cn (fitT s g) 120 : Nat) : Int) ((sSt s 0 : Nat) : Int) (tl s g b).1 (tl s g b).2 (b : Int) := by
  have hn := k.n
  induction n with
  | zero => intro b h1 h2; omega
  | succ n ih =>
    intro b h1 h2
    unfold M_X4_bestTeller_25
    refine c_count1 hy.1 ⟨fun c => by rw [show b = nB s by omega]; exact hq, fun c => ⟨⟨by omega, by omega⟩, ⟨by omega, by omega⟩, ?_⟩⟩
    have ih := ih (b + 1) (by omega) (by omega)
    unfold tl at ih
    have e66 : y 66 b = ((cb s g b 120 : Nat) : Int) := by
      rw [hy.2.2 b (by omega)]
      unfold cb
      rw [cn_cong 120 fun u hu => ?_]
      have : (pS s u).testBit b = (decide (b < nB s) && sPs s u b) := bts_bit _ _ _
      rw [this, decide_eq_true (by omega), Bool.true_and]
    rw [Int.toNat_natCast, e66]
    have hcl := cb_le s g b 120
    have hcl2 := cn_le (fitT s g) 120
    refine ⟨⟨by omega, by omega⟩, s_max ?_⟩
    have hl := sSt_31 k 0
    refine s_has10 (by omega) (by omega) ?_
    have eb : (sSt s 0).testBit b = decide (s 5 b = 0) := by
      have : (sSt s 0).testBit b = (decide (b < nB s) && decide (s 5 b = 0)) := bts_bit _ _ _
      rw [this, decide_eq_true (by omega), Bool.true_and]
    rw [eb]
    show ((if decide (s 5 b = 0) = true then (1 : Int) else 0) = 0 → _) ∧ (¬ (if decide (s 5 b = 0) = true then (1 : Int) else 0) = 0 → ((tl s g b).2 ≤ mxT (cb s g b 120) (cn (fitT s g) 120) → _) ∧ (¬ (tl s g b).2 ≤ mxT (cb s g b 120) (cn (fitT s g) 120) → _))
    by_cases d : s 5 b = 0
    · rw [if_pos (decide_eq_true d)]
      refine iF (by decide) ⟨fun e => ⟨rg1 (by omega), ?_⟩, fun e => ⟨rg1 (by omega), ?_⟩⟩
      · rw [if_neg (fun z => by omega)] at ih
        exact ih
      · rw [if_pos ⟨d, by omega⟩] at ih
        exact ih
    · rw [if_neg (by simp; exact d)]
      refine iT rfl ⟨rg1 (by omega), ?_⟩
      rw [if_neg (fun z => d z.1)] at ih
      exact ih
def sTel (s : XM) (g : Int) : Int := if 0 ≤ g ∧ g < 6 then (if sSt s (1 + g) = 0 then -1000000003 else (tl s g (nB s)).1) else -1000000002
theorem C_tells {s x : XM} {g : Int} {q : Int → XM → Prop} (h : CF s x) (k : Ok s) (hq : ∀ y : XM, CF s y → Fr x y → q (sTel s g) y) : M_X10_tells x g q := by
  have hq2 : (fun z => ∀ y : XM, CF s y → Fr x y → q z y) (sTel s g) := hq
  refine c_isHeap (isN_j (q := fun z => ∀ y : XM, CF s y → Fr x y → q z y) hq2 (fun w e hw hq => c_at h k ⟨by omega, by omega⟩ ?_) fun hq => hq x h Fr.rf)
  have hg : 0 ≤ g ∧ g < 6 := ⟨by omega, by omega⟩
  rw [enc_h hg]
  have hq : ∀ y : XM, CF s y → Fr x y → q (if sSt s (1 + g) = 0 then -1000000003 else (tl s g (nB s)).1) y := hq
  refine ⟨fun c => c_countPassed h k hg fun y hy => c_at hy.1 k (by decide) ⟨nB s + 1, ?_⟩, fun c => by rw [if_pos (by omega)] at hq; exact hq x h Fr.rf⟩
  rw [if_neg (by omega)] at hq
  exact c_best_25 k hy (hq y hy.1 fun k hk => hy.2.1 k (by omega)) (nB s + 1) 0 (by omega) (by omega)
theorem r_tells_53 {s x y : XM} {g : Int} {b : Nat} {v2 v3 : Int} {q : Int → XM → Prop} {K38 : XM → Int → Int → Int → Prop} (k : Ok s) (hy : Ms s g x y 120) (hb : b < nB s) (hK : (s 5 b = 0 ∧ mxT (cb s g b 120) (cn (fitT s g) 120) < v3 → K38 y b (mxT (cb s g b 120) (cn (fitT s g) 120)) ((b : Int) + 1)) ∧ (¬ (s 5 b = 0 ∧ mxT (cb s g b 120) (cn (fitT s g) 120) < v3) → K38 y v2 v3 ((b : Int) + 1))) (n : Nat) : ∀ w, w ≤ 120 → 120 < w + n → M_X11_tells_53 q K38 n y v2 v3 (b : Int) ((cb s g b w : Nat) : Int) (w : Int) := by
  have hn := k.n
  obtain ⟨h, fy, f98, f33⟩ := hy
  have f33 : y 83 33 = ((cn (fitT s g) 120 : Nat) : Int) := f33
  induction n with
  | zero => intro w h1 h2; omega
  | succ n ih =>
    intro w h1 h2
    unfold M_X11_tells_53
    have hcw := cn_le (fun u => fitT s g u && sPs s u b) w
    have hcw : cb s g b w ≤ w := hcw
    refine ⟨fun c => ?_, fun c => ⟨⟨by omega, by omega⟩, ?_⟩⟩
    · have e : w = 120 := by omega
      subst e
      rw [f33]
      have hcl := cb_le s g b 120
      have hcl2 := cn_le (fitT s g) 120
      have F : ∀ z : Int, z = mxT (cb s g b 120) (cn (fitT s g) 120) → M_X11_tells_121 q K38 y v2 v3 (b : Int) z := by
        intro z ez
        subst ez
        refine ⟨⟨by omega, by omega⟩, ?_⟩
        rw [Int.toNat_natCast, h.nw (by omega)]
        refine ⟨fun d => ⟨rg1 (by omega), hK.2 fun z => d z.1⟩, fun d => ⟨fun e => ⟨rg1 (by omega), hK.2 fun z => by omega⟩, fun e => ⟨rg1 (by omega), hK.1 ⟨d, by omega⟩⟩⟩⟩
      refine ⟨⟨by omega, by omega⟩, ⟨fun d => ⟨⟨by omega, by omega⟩, F _ ?_⟩, fun d => F _ ?_⟩⟩
      · unfold mxT
        split <;> omega
      · unfold mxT
        rw [if_neg (by omega)]
    · rw [Int.toNat_natCast, f98 w (by omega)]
      have ec : cb s g b (w + 1) = cb s g b w + (if fitT s g w && sPs s w b then 1 else 0) := rfl
      have ih := ih (w + 1) (by omega) (by omega)
      rw [ec] at ih
      show ((if fitT s g w = true then (1 : Int) else 0) = 0 → _) ∧ (¬ (if fitT s g w = true then (1 : Int) else 0) = 0 → _)
      by_cases e : fitT s g w = true
      · rw [e, Bool.true_and] at ih
        rw [if_pos e]
        refine iF (by decide) (r_passes h k (by omega) hb ?_)
        by_cases f : sPs s w b = true
        · rw [if_pos f] at ih ⊢
          exact iF (by decide) ⟨rg1 (by omega), rg1 (by omega), ih⟩
        · rw [if_neg f] at ih ⊢
          exact iT rfl ⟨⟨by omega, by omega⟩, rg1 (by omega), ih⟩
      · rw [Bool.eq_false_iff.2 e, Bool.false_and] at ih
        rw [if_neg e]
        exact iT rfl ⟨⟨by omega, by omega⟩, rg1 (by omega), ih⟩
theorem r_tells_38 {s x y : XM} {g : Int} {q : Int → XM → Prop} (k : Ok s) (hy : Ms s g x y 120) (hq : q (tl s g (nB s)).1 y) (n : Nat) : ∀ b, b ≤ nB s → nB s < b + n → M_X11_tells_38 q n y (tl s g b).1 (tl s g b).2 (b : Int) := by
  have hn := k.n
  induction n with
  | zero => intro b h1 h2; omega
  | succ n ih =>
    intro b h1 h2
    unfold M_X11_tells_38
    rw [hy.1.n]
    refine ⟨fun c => by rw [show b = nB s by omega]; exact hq, fun c => ⟨121, ?_⟩⟩
    have ih := ih (b + 1) (by omega) (by omega)
    unfold tl at ih
    refine r_tells_53 k hy (by omega) ⟨fun d => ?_, fun d => ?_⟩ 121 0 (by omega) (by omega)
    · rw [if_pos d] at ih
      exact ih
    · rw [if_neg d] at ih
      exact ih
theorem R_tells {s x : XM} {g : Int} {q : Int → XM → Prop} (h : RF s x) (k : Ok s) (hq : ∀ y : XM, RF s y → Gr x y → q (sTel s g) y) : M_X11_tells x g q := by
  have hq2 : (fun z => ∀ y : XM, RF s y → Gr x y → q z y) (sTel s g) := hq
  refine r_isHeap (isN_j (q := fun z => ∀ y : XM, RF s y → Gr x y → q z y) hq2 (fun w e hw hq => ⟨⟨by omega, by omega⟩, r_setIn h k ?_⟩) fun hq => hq x h Gr.rf)
  have hq : ∀ y : XM, RF s y → Gr x y → q (if sSt s (1 + g) = 0 then -1000000003 else (tl s g (nB s)).1) y := hq
  refine ⟨fun c => r_measure h k fun y hy => ⟨nB s + 1, ?_⟩, fun c => by rw [if_pos (by omega)] at hq; exact hq x h Gr.rf⟩
  rw [if_neg (by omega)] at hq
  have e33 : y 83 33 = (tl s g 0).2 := hy.2.2.2
  rw [e33]
  exact r_tells_38 k hy (hq y hy.1 fun k hk => hy.2.1 k (by omega) (by omega)) (nB s + 1) 0 (by omega) (by omega)
