/-! ===== load ===== -/
def LdV (s : XM) (v : Int) (T : Nat) : Prop := Sub T (sSt s 0) ∧ v ≤ sumH s T
def IsL (s : XM) (v r : Int) : Prop := (r = -1 ∧ ∀ T, ¬ LdV s v T) ∨ ∃ R : Nat, r = (R : Int) ∧ LdV s v R ∧ ∀ T, LdV s v T → Lex R T
theorem IsL.uniq {s : XM} {v r r' : Int} (h : IsL s v r) (h' : IsL s v r') : r = r' := by
  rcases h with ⟨e, h⟩ | ⟨R, e, h1, h2⟩ <;> rcases h' with ⟨e', h'⟩ | ⟨R', e', h1', h2'⟩
  · omega
  · exact absurd h1' (h R')
  · exact absurd h1 (h' R)
  · have a := h2 R' h1'
    have b := h2' R h1
    unfold Lex at a b
    omega
theorem LdV.lt {s : XM} {v : Int} {T : Nat} (h : LdV s v T) : T < 2 ^ nB s := h.1.lt (sSt_lt _)
theorem LdV.pos {s : XM} {v : Int} {T : Nat} (hv : 1 ≤ v) (h : LdV s v T) : ¬ T = 0 := by
  intro e
  have := h.2
  rw [e] at this
  unfold sumH at this
  rw [sumF_0] at this
  omega
theorem ndiff_sub {T S : Nat} : ndiff T S = 0 ↔ Sub T S := by
  constructor
  · intro h b hb
    have t : (ndiff T S).testBit b = Nat.testBit 0 b := by rw [h]
    rw [ndiff_bit, Nat.zero_testBit, hb, Bool.true_and] at t
    cases e : S.testBit b
    · rw [e] at t; cases t
    · rfl
  · intro h
    apply Nat.eq_of_testBit_eq
    intro i
    rw [ndiff_bit, Nat.zero_testBit]
    cases e : T.testBit i
    · rfl
    · rw [h i e]; rfl
theorem r_load_18 {s x : XM} {v : Int} {q : Int → Prop} (h : RF s x) (k : Ok s) (hv : 1 ≤ v) (hq : ∀ r, IsL s v r → q r) (n : Nat) : ∀ (T : Nat) (r : Int), 1 ≤ T → T ≤ 2 ^ nB s → 2 ^ nB s < T + n → ((r = -1 ∧ ∀ T', T' < T → ¬ LdV s v T') ∨ ∃ R : Nat, r = (R : Int) ∧ R < T ∧ LdV s v R ∧ ∀ T', T' < T → LdV s v T' → Lex R T') → M_X11_load_18 q x n v r (T : Int) := by
  have hn := k.n
  have h12 := pow12 hn.2
  induction n with
  | zero => intro T r a0 a1 a2; omega
  | succ n ih =>
    intro T r a0 a1 a2 hr
    unfold M_X11_load_18
    rw [h.n, hn.1, jshl_1 _ (by omega)]
    refine ⟨fun c => hq r ?_, fun c => r_setIn h k ?_⟩
    · rcases hr with ⟨e, hr⟩ | ⟨R, e, h1, h2, h3⟩
      · exact Or.inl ⟨e, fun T' hT' => hr T' (by have := hT'.lt; omega) hT'⟩
      · exact Or.inr ⟨R, e, h2, fun T' hT' => h3 T' (by have := hT'.lt; omega) hT'⟩
    · have hl := sSt_31 k 0
      have skip : (LdV s v T → ∃ R : Nat, r = (R : Int) ∧ Lex R T) → M_X11_load_18 q x n v r ((T : Int) + 1) := fun hs =>
        ih (T + 1) r (by omega) (by omega) (by omega) (by
          rcases hr with ⟨e, hr⟩ | ⟨R, e, h1, h2, h3⟩
          · refine Or.inl ⟨e, fun T' hT' hm => ?_⟩
            by_cases d : T' = T
            · rw [d] at hm
              obtain ⟨R, e2, _⟩ := hs hm
              omega
            · exact hr T' (by omega) hm
          · refine Or.inr ⟨R, e, by omega, h2, fun T' hT' hm => ?_⟩
            by_cases d : T' = T
            · rw [d] at hm ⊢
              obtain ⟨R2, e2, h4⟩ := hs hm
              rw [show R = R2 by omega]
              exact h4
            · exact h3 T' (by omega) hm)
      rw [jdiff_n (by omega)]
      have take : Sub T (sSt s 0) → (r = -1 ∨ ∃ R : Nat, r = (R : Int) ∧ pcn T 12 < pcn R 12) → M_X11_load_61 q (M_X11_load_18 q x n) x v r (T : Int) 1 := by
        intro hs hlt
        refine iF (by decide) (r_holdsOf h k (by omega) ⟨fun d => ⟨rg1 (by omega), skip fun hm => ?_⟩, fun d => ⟨rg1 (by omega), ih (T + 1) (T : Int) (by omega) (by omega) (by omega) (Or.inr ⟨T, rfl, by omega, ⟨hs, by omega⟩, fun T' hT' hm => ?_⟩)⟩⟩)
        · have := hm.2
          omega
        · by_cases f : T' = T
          · rw [f]; exact Or.inr ⟨rfl, Nat.le_refl _⟩
          · rcases hr with ⟨e, hr⟩ | ⟨R, e, h1, h2, h3⟩
            · exact absurd hm (hr T' (by omega))
            · have g := h3 T' (by omega) hm
              rcases hlt with hlt | ⟨R2, e2, hlt⟩
              · omega
              · rw [show R2 = R by omega] at hlt
                unfold Lex at g ⊢
                omega
      refine ⟨fun d => iT rfl ⟨rg1 (by omega), skip fun hm => ?_⟩, fun d => ?_⟩
      · exact absurd (by have := ndiff_sub.2 hm.1; omega) d
      · have hs : Sub T (sSt s 0) := ndiff_sub.1 (by omega)
        refine ⟨fun e => take hs (Or.inl e), fun e => ?_⟩
        rcases hr with ⟨e', hr⟩ | ⟨R, e', h1, h2, h3⟩
        · exact absurd e' e
        · refine s_bitsOf (by omega) ?_
          rw [e']
          refine s_bitsOf (by omega) ⟨fun f => ?_, fun f => ?_⟩
          · rw [← e']
            exact iT rfl ⟨rg1 (by omega), skip fun _ => ⟨R, e', by unfold Lex; omega⟩⟩
          · rw [← e']
            exact take hs (Or.inr ⟨R, e', by omega⟩)
theorem R_load {s x : XM} {v : Int} {q : Int → Prop} (h : RF s x) (k : Ok s) (h1 : ¬ (1 ≤ v ∧ v ≤ 999) → q (-1000000002)) (h2 : 1 ≤ v ∧ v ≤ 999 → ∀ r, IsL s v r → q r) : M_X11_load x v q := by
  have hp0 : 0 < 2 ^ nB s := Nat.pow_pos (by decide)
  refine r_in ?_
  by_cases c : 1 ≤ v ∧ v ≤ 999
  · rw [if_pos c]
    exact jT (by decide) ⟨2 ^ nB s + 1, r_load_18 h k c.1 (h2 c) (2 ^ nB s + 1) 1 (-1) (by omega) (by omega) (by omega) (Or.inl ⟨rfl, fun T' hT' hm => hm.pos c.1 (by omega)⟩)⟩
  · rw [if_neg c]
    exact jF rfl (h1 c)
theorem sumF_split {f : Nat → Int} {T C L : Nat} (h : ∀ b, T.testBit b = (C.testBit b || L.testBit b)) (hd : ∀ b, C.testBit b = true → L.testBit b = false) : ∀ n, sumF f T n = sumF f C n + sumF f L n
  | 0 => rfl
  | n + 1 => by
    unfold sumF
    rw [sumF_split h hd n, h n]
    cases e1 : C.testBit n <;> cases e2 : L.testBit n
    · simp
    · simp; omega
    · simp; omega
    · rw [hd n e1] at e2; cases e2
theorem pcn_split {T C L : Nat} (h : ∀ b, T.testBit b = (C.testBit b || L.testBit b)) (hd : ∀ b, C.testBit b = true → L.testBit b = false) : ∀ n, pcn T n = pcn C n + pcn L n
  | 0 => rfl
  | n + 1 => by
    unfold pcn
    rw [pcn_split h hd n, h n]
    cases e1 : C.testBit n <;> cases e2 : L.testBit n
    · simp
    · simp; omega
    · simp; omega
    · rw [hd n e1] at e2; cases e2
theorem div_step (T b : Nat) : T / 2 ^ b = 2 * (T / 2 ^ (b + 1)) + (if T.testBit b then 1 else 0) := by
  have e : T / 2 ^ (b + 1) = T / 2 ^ b / 2 := by rw [Nat.pow_succ, Nat.div_div_eq_div_mul]
  rw [e, Nat.testBit_eq_decide_div_mod_eq]
  by_cases c : T / 2 ^ b % 2 = 1
  · rw [if_pos (decide_eq_true c)]; omega
  · rw [if_neg (by simp; omega)]; omega
/-- the class's choice, from the top down -/
def LdI (s : XM) (v : Int) (m j W C kk : Nat) : Prop := (∀ b, W.testBit b = ((sSt s 0).testBit b && decide (b < j))) ∧ (∀ b, C.testBit b = true → (sSt s 0).testBit b = true ∧ j ≤ b) ∧ pcn C 12 + kk = m ∧ (∃ T, Sub T W ∧ pcn T 12 ≤ kk ∧ v - sumH s C ≤ sumH s T) ∧ ∀ T, LdV s v T → pcn T 12 ≤ m → C / 2 ^ j ≤ T / 2 ^ j
theorem LdI.w {s : XM} {v : Int} {m j W C kk : Nat} (h : LdI s v m j W C kk) : ∀ b, W.testBit b = ((sSt s 0).testBit b && decide (b < j)) := h.1
theorem LdI.c {s : XM} {v : Int} {m j W C kk : Nat} (h : LdI s v m j W C kk) : ∀ b, C.testBit b = true → (sSt s 0).testBit b = true ∧ j ≤ b := h.2.1
theorem LdI.p {s : XM} {v : Int} {m j W C kk : Nat} (h : LdI s v m j W C kk) : pcn C 12 + kk = m := h.2.2.1
theorem LdI.e {s : XM} {v : Int} {m j W C kk : Nat} (h : LdI s v m j W C kk) : ∃ T, Sub T W ∧ pcn T 12 ≤ kk ∧ v - sumH s C ≤ sumH s T := h.2.2.2.1
theorem LdI.l {s : XM} {v : Int} {m j W C kk : Nat} (h : LdI s v m j W C kk) : ∀ T, LdV s v T → pcn T 12 ≤ m → C / 2 ^ j ≤ T / 2 ^ j := h.2.2.2.2
theorem sumH_on {s : XM} {C b : Nat} (hb : b < nB s) (hc : C.testBit b = false) : sumH s (C ||| 2 ^ b) = sumH s C + sHo s b ∧ pcn (C ||| 2 ^ b) 12 = pcn C 12 + (if b < 12 then 1 else 0) := by
  have gv : (C ||| 2 ^ b).testBit b = true := by rw [Nat.testBit_or, Nat.testBit_two_pow]; simp
  have gc : ∀ c, c ≠ b → (C ||| 2 ^ b).testBit c = C.testBit c := fun c hcb => by rw [Nat.testBit_or, Nat.testBit_two_pow, show decide (b = c) = false by simp; omega, Bool.or_false]
  refine ⟨?_, pcn_one gv hc gc 12⟩
  unfold sumH
  rw [sumF_one gv hc gc (nB s), if_pos hb]
theorem sumH_off {s : XM} {T b : Nat} (hb : b < nB s) (hc : T.testBit b = true) : sumH s T = sumH s (ndiff T (2 ^ b)) + sHo s b ∧ pcn T 12 = pcn (ndiff T (2 ^ b)) 12 + (if b < 12 then 1 else 0) := by
  have gv : (ndiff T (2 ^ b)).testBit b = false := by rw [ndiff_bit, Nat.testBit_two_pow]; simp
  have gc : ∀ c, c ≠ b → T.testBit c = (ndiff T (2 ^ b)).testBit c := fun c hcb => by rw [ndiff_bit, Nat.testBit_two_pow, show decide (b = c) = false by simp; omega]; simp
  refine ⟨?_, pcn_one hc gv gc 12⟩
  unfold sumH
  rw [sumF_one hc gv gc (nB s), if_pos hb]
theorem LdI.skip {s : XM} {v : Int} {m j W C kk : Nat} (h : LdI s v m (j + 1) W C kk) (hb : (sSt s 0).testBit j = false) : LdI s v m j W C kk := by
  have cj : C.testBit j = false := by
    cases e : C.testBit j
    · rfl
    · have := (h.c j e).2
      omega
  refine ⟨fun b => ?_, fun b hb => ⟨(h.c b hb).1, by have := (h.c b hb).2; omega⟩, h.p, h.e, fun T hT hp => ?_⟩
  · rw [h.w b]
    by_cases c : b = j
    · rw [c, hb]; simp
    · rw [show decide (b < j + 1) = decide (b < j) by rw [decide_eq_decide]; omega]
  · have := h.l T hT hp
    rw [div_step C j, div_step T j, cj]
    simp
    omega
theorem LdI.drop {s : XM} {v : Int} {m j W C kk : Nat} {t : Int} (h : LdI s v m (j + 1) W C kk) (ht : Top s (ndiff W (2 ^ j)) kk t) (hv : v - sumH s C ≤ t) : LdI s v m j (ndiff W (2 ^ j)) C kk := by
  have cj : C.testBit j = false := by
    cases e : C.testBit j
    · rfl
    · have := (h.c j e).2
      omega
  refine ⟨fun b => ?_, fun b hb => ⟨(h.c b hb).1, by have := (h.c b hb).2; omega⟩, h.p, ?_, fun T hT hp => ?_⟩
  · rw [ndiff_bit, h.w b, Nat.testBit_two_pow]
    by_cases c : b = j
    · rw [c]; simp
    · rw [show decide (b < j + 1) = decide (b < j) by rw [decide_eq_decide]; omega, show decide (j = b) = false by simp; omega]
      simp
  · obtain ⟨T, h1, h2, h3⟩ := ht.1
    exact ⟨T, h1, h2, by omega⟩
  · have := h.l T hT hp
    rw [div_step C j, div_step T j, cj]
    simp
    omega
theorem LdI.take {s : XM} {v : Int} {m j W C kk : Nat} {t : Int} (k : Ok s) (h : LdI s v m (j + 1) W C kk) (hj : (sSt s 0).testBit j = true) (ht : Top s (ndiff W (2 ^ j)) kk t) (hv : ¬ v - sumH s C ≤ t) : 1 ≤ kk ∧ LdI s v m j (ndiff W (2 ^ j)) (C ||| 2 ^ j) (kk - 1) ∧ sumH s (C ||| 2 ^ j) = sumH s C + sHo s j := by
  have hjn : j < nB s := bit_lt (sSt_lt _) hj
  have hn := k.n
  have cj : C.testBit j = false := by
    cases e : C.testBit j
    · rfl
    · have := (h.c j e).2
      omega
  have on := sumH_on hjn cj
  rw [if_pos (by omega)] at on
  obtain ⟨T, t1, t2, t3⟩ := h.e
  have tj : T.testBit j = true := by
    cases e : T.testBit j
    · exfalso
      refine hv (Int.le_trans t3 (ht.2 T (fun b hb => ?_) t2))
      rw [ndiff_bit, t1 b hb, Nat.testBit_two_pow]
      by_cases c : j = b
      · rw [← c, e] at hb; cases hb
      · simp [c]
    · rfl
  have off := sumH_off hjn tj
  rw [if_pos (by omega)] at off
  refine ⟨by omega, ⟨fun b => ?_, fun b hb => ?_, ?_, ⟨ndiff T (2 ^ j), fun b hb => ?_, by omega, by omega⟩, fun T' hT' hp => ?_⟩, on.1⟩
  · rw [ndiff_bit, h.w b, Nat.testBit_two_pow]
    by_cases c : b = j
    · rw [c]; simp
    · rw [show decide (b < j + 1) = decide (b < j) by rw [decide_eq_decide]; omega, show decide (j = b) = false by simp; omega]
      simp
  · rw [Nat.testBit_or, Nat.testBit_two_pow, Bool.or_eq_true, decide_eq_true_eq] at hb
    rcases hb with hb | hb
    · have := h.c b hb
      exact ⟨this.1, by omega⟩
    · rw [← hb]; exact ⟨hj, Nat.le_refl _⟩
  · have := h.p
    omega
  · rw [ndiff_bit, Bool.and_eq_true] at hb
    rw [ndiff_bit, t1 b hb.1, hb.2]
    rfl
  · have hl := h.l T' hT' hp
    have eC : (C ||| 2 ^ j) / 2 ^ (j + 1) = C / 2 ^ (j + 1) := by
      apply Nat.eq_of_testBit_eq
      intro i
      rw [Nat.testBit_div_two_pow, Nat.testBit_div_two_pow, Nat.testBit_or, Nat.testBit_two_pow, show decide (j = i + (j + 1)) = false by simp; omega, Bool.or_false]
    have ob : (C ||| 2 ^ j).testBit j = true := by rw [Nat.testBit_or, Nat.testBit_two_pow]; simp
    rw [div_step _ j, eC, ob, div_step T' j]
    by_cases c : C / 2 ^ (j + 1) < T' / 2 ^ (j + 1)
    · simp; omega
    · have eq : C / 2 ^ (j + 1) = T' / 2 ^ (j + 1) := by omega
      have hi : ∀ b, j + 1 ≤ b → C.testBit b = T'.testBit b := fun b hb => by
        have e1 : (C / 2 ^ (j + 1)).testBit (b - (j + 1)) = C.testBit (b - (j + 1) + (j + 1)) := Nat.testBit_div_two_pow _ _
        have e2 : (T' / 2 ^ (j + 1)).testBit (b - (j + 1)) = T'.testBit (b - (j + 1) + (j + 1)) := Nat.testBit_div_two_pow _ _
        rw [show b - (j + 1) + (j + 1) = b by omega] at e1 e2
        rw [← e1, ← e2, eq]
      have lb : ∀ b, (T' % 2 ^ (j + 1)).testBit b = (decide (b < j + 1) && T'.testBit b) := fun b => Nat.testBit_mod_two_pow _ _ _
      have s1 : ∀ b, T'.testBit b = (C.testBit b || (T' % 2 ^ (j + 1)).testBit b) := fun b => by
        rw [lb]
        by_cases d : b < j + 1
        · have : C.testBit b = false := by
            cases e : C.testBit b
            · rfl
            · have := (h.c b e).2
              omega
          rw [this]; simp [d]
        · rw [hi b (by omega)]; simp [d]
      have s2 : ∀ b, C.testBit b = true → (T' % 2 ^ (j + 1)).testBit b = false := fun b hb => by
        have := (h.c b hb).2
        rw [lb]; simp; omega
      have g1 : sumH s T' = sumH s C + sumH s (T' % 2 ^ (j + 1)) := sumF_split s1 s2 _
      have g2 := pcn_split s1 s2 12
      have tb : T'.testBit j = true := by
        cases e : T'.testBit j
        · exfalso
          have hp' := h.p
          have := ht.2 (T' % 2 ^ (j + 1)) (fun b hb => ?_) (by omega)
          · have := hT'.2
            omega
          · rw [lb, Bool.and_eq_true, decide_eq_true_eq] at hb
            rw [ndiff_bit, h.w b, hT'.1 b hb.2, Nat.testBit_two_pow]
            have : ¬ j = b := fun z => by rw [← z, e] at hb; exact absurd hb.2 (by decide)
            simp [this]
            omega
        · rfl
      rw [tb]
      simp
      omega
theorem c_fewest_55 {s x : XM} {v : Int} {m : Nat} {q : Int → Prop} (h : CF s x) (k : Ok s) (hv : 1 ≤ v ∧ v ≤ 999) (hm12 : m ≤ 12) (hm : ∀ T, LdV s v T → m ≤ pcn T 12) (hq : ∀ r, IsL s v r → q r) (n : Nat) : ∀ (j W C kk : Nat) (v6 : Int), v6 = (j : Int) - 1 → j ≤ 12 → j < n → LdI s v m j W C kk → M_X10_fewestThatHold_55 q x n (W : Int) (kk : Int) (C : Int) (v - sumH s C) v6 := by
  have hn := k.n
  have h12 := pow12 hn.2
  induction n with
  | zero => intro j W C kk v6 _ a1 a2; omega
  | succ n ih =>
    intro j W C kk v6 e6 a1 a2 hI
    have hWs : Sub W (sSt s 0) := fun b hb => by
      rw [hI.w b, Bool.and_eq_true] at hb
      exact hb.1
    have hWl := hWs.lt (sSt_lt (s := s) 0)
    have hCs : Sub C (sSt s 0) := fun b hb => (hI.c b hb).1
    have hCl := hCs.lt (sSt_lt (s := s) 0)
    have hsb := sumH_b k C
    have hpp := hI.p
    unfold M_X10_fewestThatHold_55
    refine ⟨fun c => hq _ (Or.inr ⟨C, rfl, ?_, fun T hT => ?_⟩), fun c => ?_⟩
    · obtain ⟨T, t1, t2, t3⟩ := hI.e
      have e0 : j = 0 := by omega
      subst e0
      have : T = 0 := by
        apply Nat.eq_of_testBit_eq
        intro i
        rw [Nat.zero_testBit]
        cases e : T.testBit i
        · rfl
        · have := t1 i e
          rw [hI.w i] at this
          simp at this
      rw [this] at t3
      have z : sumH s 0 = 0 := sumF_0 _
      exact ⟨hCs, by omega⟩
    · have e0 : j = 0 := by omega
      subst e0
      have := hm T hT
      by_cases d : pcn T 12 ≤ m
      · have l := hI.l T hT d
        rw [Nat.pow_zero, Nat.div_one, Nat.div_one] at l
        unfold Lex
        omega
      · unfold Lex
        omega
    · obtain ⟨t, rfl⟩ : ∃ t, j = t + 1 := ⟨j - 1, by omega⟩
      rw [show v6 = (t : Int) by omega]
      refine s_has10 (by omega) (by omega) ?_
      have wt : W.testBit t = (sSt s 0).testBit t := by rw [hI.w t]; simp
      by_cases d : (sSt s 0).testBit t = true
      · rw [wt, if_pos d]
        rw [jshl_1 t (by omega), jdiff_n (by omega)]
        have htn : t < nB s := bit_lt (sSt_lt _) d
        have hp : 2 ^ t < 2 ^ nB s := Nat.pow_lt_pow_right (by decide) htn
        refine iF (by decide) (c_mostHeld h k (ndiff_lt hWl) (by omega) fun z hz => ⟨fun e => ⟨⟨by omega, by omega⟩, ih t _ C kk _ (by omega) (by omega) (by omega) (hI.drop hz e)⟩, fun e => c_holds h k htn ?_⟩)
        obtain ⟨g1, g2, g3⟩ := hI.take k d hz e
        have hho := k.ho htn
        refine ⟨⟨by omega, by omega⟩, ⟨by omega, by omega⟩, ⟨by omega, by omega⟩, ?_⟩
        have := ih t _ _ _ ((t : Int) + -1) (by omega) (by omega) (by omega) g2
        rw [jor_n (by omega) (by omega), show (kk : Int) + -1 = ((kk - 1 : Nat) : Int) by omega, show v - sumH s C - sHo s t = v - sumH s (C ||| 2 ^ t) by omega]
        exact this
      · rw [wt, if_neg d]
        exact iT rfl ⟨⟨by omega, by omega⟩, ih t W C kk _ (by omega) (by omega) (by omega) (hI.skip (Bool.eq_false_iff.2 d))⟩
theorem pc0 : ∀ S : Nat, S < 4096 → pcn S 12 = 0 → S = 0 := all64 (by decide +kernel)
theorem c_fewest_12 {s x : XM} {v : Int} {q : Int → Prop} (h : CF s x) (k : Ok s) (hv : 1 ≤ v ∧ v ≤ 999) (hq : ∀ r, IsL s v r → q r) (n : Nat) : ∀ m : Nat, 1 ≤ m → m ≤ 13 → 13 < m + n → (∀ T, LdV s v T → m ≤ pcn T 12) → M_X10_fewestThatHold_12 q x n v ((sSt s 0 : Nat) : Int) (m : Int) := by
  induction n with
  | zero => intro m a0 a1 a2; omega
  | succ n ih =>
    intro m a0 a1 a2 hm
    unfold M_X10_fewestThatHold_12
    refine ⟨fun c => iF (by omega) (hq _ (Or.inl ⟨rfl, fun T hT => ?_⟩)), fun c => c_mostHeld h k (sSt_lt _) (by omega) fun t ht => ⟨fun d => ?_, fun d => ⟨rg1 (by omega), ih (m + 1) (by omega) (by omega) (by omega) fun T hT => ?_⟩⟩⟩
    · have := hm T hT
      have := pcn_le T 12
      omega
    · refine iT (by omega) ⟨13, ?_⟩
      have hz : sumH s 0 = 0 := sumF_0 _
      have := c_fewest_55 h k hv (by omega) hm hq 13 12 (sSt s 0) 0 m 11 (by omega) (by omega) (by omega) ⟨fun b => ?_, (fun b hb => by rw [Nat.zero_testBit] at hb; cases hb), (by rw [pcn_0]; omega), ?_, (fun T hT hp => by rw [Nat.zero_div]; omega)⟩
      · rw [hz, show v - 0 = v by omega] at this
        exact this
      · cases e : (sSt s 0).testBit b
        · rfl
        · have := bit_lt (sSt_lt (s := s) 0) e
          have := k.n
          simp
          omega
      · obtain ⟨T, t1, t2, t3⟩ := ht.1
        exact ⟨T, t1, t2, by omega⟩
    · have h1 := hm T hT
      by_cases e : pcn T 12 ≤ m
      · have := ht.2 T hT.1 e
        have := hT.2
        omega
      · omega
theorem C_load {s x : XM} {v : Int} {q : Int → Prop} (h : CF s x) (k : Ok s) (h1 : ¬ (1 ≤ v ∧ v ≤ 999) → q (-1000000002)) (h2 : 1 ≤ v ∧ v ≤ 999 → ∀ r, IsL s v r → q r) : M_X10_load x v q := by
  refine ⟨fun c => h1 (by omega), fun c => ⟨fun c2 => h1 (by omega), fun c2 => c_at h k (by decide) ⟨14, ?_⟩⟩⟩
  have hv : 1 ≤ v ∧ v ≤ 999 := ⟨by omega, by omega⟩
  refine c_fewest_12 h k hv (h2 hv) 14 1 (by omega) (by omega) (by omega) fun T hT => ?_
  have h0 := hT.pos hv.1
  rcases Nat.eq_zero_or_pos (pcn T 12) with e | e
  · exfalso
    have hl := hT.lt
    have h12 := pow12 k.n.2
    exact h0 (pc0 T (by omega) e)
  · exact e
