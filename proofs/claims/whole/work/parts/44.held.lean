/-! ===== sums over sets, the strongest, the most held ===== -/
def sumF (f : Nat → Int) (S : Nat) : Nat → Int
  | 0 => 0
  | n + 1 => sumF f S n + (if S.testBit n then f n else 0)
def sumH (s : XM) (S : Nat) : Int := sumF (sHo s) S (nB s)
theorem sumF_le {f g : Nat → Int} {S T : Nat} : ∀ n, (∀ b, b < n → (if S.testBit b then f b else 0) ≤ (if T.testBit b then g b else 0)) → sumF f S n ≤ sumF g T n
  | 0, _ => Int.le_refl 0
  | n + 1, h => by
    have a := sumF_le n (fun b hb => h b (by omega))
    have b := h n (by omega)
    unfold sumF
    omega
theorem sumF_cong {f g : Nat → Int} {S T : Nat} (n : Nat) (h : ∀ b, b < n → (if S.testBit b then f b else 0) = (if T.testBit b then g b else 0)) : sumF f S n = sumF g T n :=
  Int.le_antisymm (sumF_le n fun b hb => by rw [h b hb]; exact Int.le_refl _) (sumF_le n fun b hb => by rw [h b hb]; exact Int.le_refl _)
theorem sumF_sub {f : Nat → Int} {S : Nat} {θ : Int} : ∀ n, sumF (fun b => f b - θ) S n = sumF f S n - θ * (pcn S n : Int)
  | 0 => by show (0 : Int) = 0 - θ * ((0 : Nat) : Int); simp
  | n + 1 => by
    unfold sumF pcn
    rw [sumF_sub n]
    split
    · have : θ * ((pcn S n + 1 : Nat) : Int) = θ * (pcn S n : Int) + θ := by
        rw [Int.natCast_add, Int.mul_add]; simp
      rw [this]
      omega
    · simp
theorem sumF_bound {f : Nat → Int} {S : Nat} {n : Nat} (h : ∀ b, b < n → 0 ≤ f b ∧ f b ≤ 45) : ∀ m, m ≤ n → 0 ≤ sumF f S m ∧ sumF f S m ≤ 45 * m
  | 0, _ => ⟨Int.le_refl 0, Int.le_refl 0⟩
  | m + 1, hm => by
    have a := sumF_bound (S := S) h m (by omega)
    have b := h m (by omega)
    unfold sumF
    split <;> omega
theorem sumH_b {s : XM} (k : Ok s) (S : Nat) : 0 ≤ sumH s S ∧ sumH s S ≤ 540 := by
  have := sumF_bound (S := S) (n := nB s) (fun b hb => ⟨(k.ho hb).1, (k.ho hb).2.1⟩) (nB s) (Nat.le_refl _)
  have := k.n
  unfold sumH
  omega
theorem sumF_one {f : Nat → Int} {S T b : Nat} (hb1 : S.testBit b = true) (hb2 : T.testBit b = false) (he : ∀ c, c ≠ b → S.testBit c = T.testBit c) : ∀ n, sumF f S n = sumF f T n + (if b < n then f b else 0)
  | 0 => by simp [sumF]
  | n + 1 => by
    unfold sumF
    rw [sumF_one hb1 hb2 he n]
    by_cases c : n = b
    · subst c
      rw [hb1, hb2]
      simp
    · rw [he n c]
      by_cases d : b < n
      · rw [if_pos d, if_pos (show b < n + 1 by omega)]; omega
      · rw [if_neg d, if_neg (show ¬ b < n + 1 by omega)]; omega
theorem pcn_one {S T b : Nat} (hb1 : S.testBit b = true) (hb2 : T.testBit b = false) (he : ∀ c, c ≠ b → S.testBit c = T.testBit c) : ∀ n, pcn S n = pcn T n + (if b < n then 1 else 0)
  | 0 => by simp [pcn]
  | n + 1 => by
    unfold pcn
    rw [pcn_one hb1 hb2 he n]
    by_cases c : n = b
    · subst c
      rw [hb1, hb2]
      simp
    · rw [he n c]
      by_cases d : b < n
      · rw [if_pos d, if_pos (show b < n + 1 by omega)]; omega
      · rw [if_neg d, if_neg (show ¬ b < n + 1 by omega)]; omega
theorem r_holdsOf_4 {s x : XM} {q : Int → Prop} {S : Nat} (h : RF s x) (k : Ok s) (hS : S < 2 ^ 31) (hq : q (sumH s S)) (n : Nat) : ∀ b, b ≤ nB s → nB s < b + n → M_X11_holdsOf_4 q x n (S : Int) (sumF (sHo s) S b) (b : Int) := by
  have hn := k.n
  induction n with
  | zero => intro b h1 h2; omega
  | succ n ih =>
    intro b h1 h2
    unfold M_X11_holdsOf_4
    rw [h.n]
    have hbd := sumF_bound (S := S) (n := nB s) (fun b hb => ⟨(k.ho hb).1, (k.ho hb).2.1⟩) b h1
    refine ⟨fun c => ?_, fun c => ?_⟩
    · unfold sumH at hq
      rw [show b = nB s by omega]
      exact hq
    · have ih := ih (b + 1) (by omega) (by omega)
      unfold sumF at ih
      refine s_has hS (by omega) ?_
      by_cases d : S.testBit b = true
      · rw [if_pos d] at ih ⊢
        have := k.ho (b := b) (by omega)
        exact iF (by decide) (r_holds h k (by omega) ⟨⟨by omega, by omega⟩, rg1 (by omega), ih⟩)
      · rw [if_neg d] at ih ⊢
        exact iT rfl ⟨⟨by omega, by omega⟩, rg1 (by omega), ih⟩
theorem r_holdsOf {s x : XM} {q : Int → Prop} {S : Nat} (h : RF s x) (k : Ok s) (hS : S < 2 ^ 31) (hq : q (sumH s S)) : M_X11_holdsOf x (S : Int) q := ⟨nB s + 1, r_holdsOf_4 h k hS hq (nB s + 1) 0 (by omega) (by omega)⟩
/-- b is a strongest of S -/
def Strg (s : XM) (S b : Nat) : Prop := S.testBit b = true ∧ b < nB s ∧ ∀ c, c < nB s → S.testBit c = true → sHo s c ≤ sHo s b
theorem c_strongest_9 {s x : XM} {q : Int → Prop} {S : Nat} (h : CF s x) (k : Ok s) (hS : S < 2 ^ 31) (hq : ∀ v : Nat, Strg s S v → q (v : Int)) (n : Nat) : ∀ b v : Nat, b ≤ nB s → nB s < b + n → S.testBit v = true → v < nB s → (∀ c, c < b → S.testBit c = true → sHo s c ≤ sHo s v) → M_X0_strongest_9 q x n (S : Int) (v : Int) (b : Int) := by
  have hn := k.n
  induction n with
  | zero => intro b v h1 h2; omega
  | succ n ih =>
    intro b v h1 h2 hv hv2 hm
    unfold M_X0_strongest_9
    refine c_count1 h ⟨fun c => hq v ⟨hv, hv2, fun c hc hs => hm c (by omega) hs⟩, fun c => ?_⟩
    refine s_has10 hS (by omega) ?_
    by_cases d : S.testBit b = true
    · rw [if_pos d]
      refine iF (by decide) (c_holds h k (by omega) (c_holds h k hv2 ⟨fun e => ⟨rg1 (by omega), ?_⟩, fun e => ⟨rg1 (by omega), ?_⟩⟩))
      · refine ih (b + 1) v (by omega) (by omega) hv hv2 fun c hc hs => ?_
        by_cases f : c = b
        · rw [f]; exact e
        · exact hm c (by omega) hs
      · refine ih (b + 1) b (by omega) (by omega) d (by omega) fun c hc hs => ?_
        by_cases f : c = b
        · rw [f]; exact Int.le_refl _
        · have := hm c (by omega) hs
          omega
    · rw [if_neg d]
      refine iT rfl ⟨rg1 (by omega), ih (b + 1) v (by omega) (by omega) hv hv2 fun c hc hs => ?_⟩
      by_cases f : c = b
      · rw [f] at hs; exact absurd hs d
      · exact hm c (by omega) hs
theorem ctz_p : ∀ S : Nat, S < 4096 → 0 < S → S.testBit (ctz S 12) = true ∧ ∀ c, c < ctz S 12 → S.testBit c = false := all64 (by decide +kernel)
theorem bit_lt {S n b : Nat} (hS : S < 2 ^ n) (h : S.testBit b = true) : b < n := by
  rcases Nat.lt_or_ge b n with c | c
  · exact c
  · rw [Nat.testBit_lt_two_pow (Nat.lt_of_lt_of_le hS (Nat.pow_le_pow_right (by decide) c))] at h
    cases h
theorem c_strongest {s x : XM} {q : Int → Prop} {S : Nat} (h : CF s x) (k : Ok s) (hS : S < 2 ^ nB s) (h0 : 0 < S) (hq : ∀ v : Nat, Strg s S v → q (v : Int)) : M_X0_strongest x (S : Int) q := by
  have hn := k.n
  have h12 := pow12 hn.2
  have hp := ctz_p S (by omega) h0
  have hl := bit_lt hS hp.1
  refine s_ntz h0 (by omega) ⟨rg1 (by omega), nB s + 1, ?_⟩
  refine c_strongest_9 h k (by omega) hq (nB s + 1) (ctz S 12 + 1) (ctz S 12) (by omega) (by omega) hp.1 hl fun c hc hs => ?_
  by_cases f : c = ctz S 12
  · rw [f]; exact Int.le_refl _
  · rw [hp.2 c (by omega)] at hs
    cases hs
def Sub (T S : Nat) : Prop := ∀ b, T.testBit b = true → S.testBit b = true
theorem Sub.lt {T S n : Nat} (h : Sub T S) (hS : S < 2 ^ n) : T < 2 ^ n := by
  apply Nat.lt_pow_two_of_testBit
  intro i hi
  cases e : T.testBit i
  · rfl
  · have := bit_lt hS (h i e)
    omega
/-- t is the most that k of S hold -/
def Top (s : XM) (S : Nat) (m : Nat) (t : Int) : Prop := (∃ T, Sub T S ∧ pcn T 12 ≤ m ∧ sumH s T = t) ∧ ∀ T, Sub T S → pcn T 12 ≤ m → sumH s T ≤ t
theorem pcn_ge {S : Nat} : ∀ {n m : Nat}, n ≤ m → S < 2 ^ n → pcn S m = pcn S n
  | n, m, h, hS => by
    induction m with
    | zero => rw [show n = 0 by omega]
    | succ m ih =>
      by_cases c : n = m + 1
      · rw [c]
      · show pcn S m + (if S.testBit m then 1 else 0) = pcn S n
        rw [ih (by omega)]
        cases e : S.testBit m
        · rfl
        · have := bit_lt hS e
          omega
theorem c_mostHeld_8 {s x : XM} {q : Int → Prop} {S0 m : Nat} (h : CF s x) (k : Ok s) (hS0 : S0 < 2 ^ nB s) (hm : m ≤ 12) (hq : ∀ t, Top s S0 m t → q t) (n : Nat) : ∀ A i : Nat, Sub A S0 → pcn A (nB s) = i → i ≤ m → m < i + n → (∃ θ : Int, 0 ≤ θ ∧ (∀ b, b < nB s → A.testBit b = true → θ ≤ sHo s b) ∧ (∀ b, b < nB s → S0.testBit b = true → A.testBit b = false → sHo s b ≤ θ)) → M_X0_mostHeld_8 q x n (m : Int) ((ndiff S0 A : Nat) : Int) (sumH s A) (i : Int) := by
  have hn := k.n
  have h12 := pow12 hn.2
  induction n with
  | zero => intro A i _ _ _ _; omega
  | succ n ih =>
    intro A i hA hi him hmn hθ
    have hlt : ndiff S0 A < 2 ^ nB s := ndiff_lt hS0
    have hA2 := hA.lt hS0
    have pA : pcn A 12 = i := (pcn_ge hn.2 hA2).trans hi
    obtain ⟨θ, t0, t1, t2⟩ := hθ
    unfold M_X0_mostHeld_8
    refine ⟨fun c => hq _ ⟨⟨A, hA, by omega, rfl⟩, fun T hT hTm => ?_⟩, fun c => ⟨fun d => hq _ ⟨⟨A, hA, by omega, rfl⟩, fun T hT hTm => ?_⟩, fun d => ?_⟩⟩
    · have e := sumF_le (f := fun b => sHo s b - θ) (g := fun b => sHo s b - θ) (S := T) (T := A) (nB s) fun b hb => by
        cases e1 : T.testBit b <;> cases e2 : A.testBit b
        · exact Int.le_refl _
        · have := t1 b hb e2; simp; omega
        · have := t2 b hb (hT b e1) e2; simp; omega
        · exact Int.le_refl _
      rw [sumF_sub, sumF_sub] at e
      have hTp : pcn T 12 = pcn T (nB s) := pcn_ge hn.2 (hT.lt hS0)
      have : θ * (pcn T (nB s) : Int) ≤ θ * (pcn A (nB s) : Int) := Int.mul_le_mul_of_nonneg_left (by omega) t0
      unfold sumH
      omega
    · refine sumF_le (nB s) fun b hb => ?_
      have hho := k.ho hb
      cases e1 : T.testBit b <;> cases e2 : A.testBit b
      · exact Int.le_refl _
      · simp; omega
      · have := hT b e1
        have e3 : (ndiff S0 A).testBit b = true := by rw [ndiff_bit, this, e2]; rfl
        rw [show ndiff S0 A = 0 by omega, Nat.zero_testBit] at e3
        cases e3
      · exact Int.le_refl _
    · refine c_strongest h k hlt (by omega) fun v hv => ?_
      obtain ⟨v1, v2, v3⟩ := hv
      rw [ndiff_bit, Bool.and_eq_true, Bool.not_eq_true'] at v1
      have hp := Nat.pow_lt_pow_right (a := 2) (by decide) v2
      have g1 : ∀ b, (A ||| 2 ^ v).testBit b = (A.testBit b || decide (v = b)) := fun b => by rw [Nat.testBit_or, Nat.testBit_two_pow]
      have gv : (A ||| 2 ^ v).testBit v = true := by rw [g1]; simp
      have gc : ∀ c, c ≠ v → (A ||| 2 ^ v).testBit c = A.testBit c := fun c hc => by rw [g1, show decide (v = c) = false by simp; omega, Bool.or_false]
      have hho := k.ho v2
      have hsb := sumH_b k A
      have e1 : sumH s (A ||| 2 ^ v) = sumH s A + sHo s v := by
        unfold sumH
        rw [sumF_one gv v1.2 gc (nB s), if_pos v2]
      have e2 : pcn (A ||| 2 ^ v) (nB s) = i + 1 := by rw [pcn_one gv v1.2 gc (nB s), if_pos v2, hi]
      refine c_holds h k v2 ⟨⟨by omega, by omega⟩, rg1 (by omega), ?_⟩
      have ih := ih (A ||| 2 ^ v) (i + 1) (fun b hb => by
        by_cases f : b = v
        · rw [f]; exact v1.1
        · rw [gc b f] at hb; exact hA b hb) e2 (by omega) (by omega) ⟨sHo s v, hho.1, fun b hb hb2 => by
          by_cases f : b = v
          · rw [f]; exact Int.le_refl _
          · rw [gc b f] at hb2
            have := t1 b hb hb2
            have := t2 v v2 v1.1 v1.2
            omega, fun b hb hb2 hb3 => by
          by_cases f : b = v
          · rw [f, gv] at hb3; cases hb3
          · rw [gc b f] at hb3
            exact v3 b hb (by rw [ndiff_bit, hb2, hb3]; rfl)⟩
      rw [jshl_1 v (by omega), jdiff_n (by omega), ndiff_or, ← e1]
      exact ih
theorem pcn_0 : ∀ n, pcn 0 n = 0
  | 0 => rfl
  | n + 1 => by unfold pcn; rw [Nat.zero_testBit]; exact pcn_0 n
theorem sumF_0 {f : Nat → Int} : ∀ n, sumF f 0 n = 0
  | 0 => rfl
  | n + 1 => by unfold sumF; rw [sumF_0 n, Nat.zero_testBit]; rfl
theorem c_mostHeld {s x : XM} {q : Int → Prop} {S m : Nat} (h : CF s x) (k : Ok s) (hS : S < 2 ^ nB s) (hm : m ≤ 12) (hq : ∀ t, Top s S m t → q t) : M_X0_mostHeld x (S : Int) (m : Int) q := by
  refine ⟨m + 1, ?_⟩
  have := c_mostHeld_8 h k hS hm hq (m + 1) 0 0 (fun b hb => by rw [Nat.zero_testBit] at hb; cases hb) (pcn_0 _) (by omega) (by omega) ⟨45, by decide, (fun b _ hb => by rw [Nat.zero_testBit] at hb; cases hb), fun b hb _ _ => (k.ho hb).2.1⟩
  rw [ndiff_0] at this
  unfold sumH at this
  rw [sumF_0] at this
  exact this
theorem Top_all {s : XM} {S : Nat} {t : Int} (k : Ok s) (h : Top s S 12 t) : t = sumH s S := by
  obtain ⟨⟨T, h1, h2, h3⟩, h4⟩ := h
  refine Int.le_antisymm ?_ (h4 S (fun _ hb => hb) (pcn_le S 12))
  rw [← h3]
  refine sumF_le (nB s) fun b hb => ?_
  have hho := k.ho hb
  cases e1 : T.testBit b <;> cases e2 : S.testBit b
  · exact Int.le_refl _
  · simp; omega
  · have := h1 b e1
    rw [e2] at this
    cases this
  · exact Int.le_refl _
/-- the heaviest heap so far -/
def hvy (s : XM) : Nat → Int
  | 0 => -1
  | n + 1 => if ¬ sSt s (1 + n) = 0 ∧ (hvy s n = -1 ∨ sumH s (sSt s (1 + hvy s n)) < sumH s (sSt s (1 + n))) then n else hvy s n
theorem hvy_ge (s : XM) : ∀ n, hvy s n = -1 ∨ ∃ g : Nat, hvy s n = (g : Int) ∧ g < n
  | 0 => Or.inl rfl
  | n + 1 => by
    unfold hvy
    split
    · exact Or.inr ⟨n, rfl, by omega⟩
    · rcases hvy_ge s n with e | ⟨g, e, hg⟩
      · exact Or.inl e
      · exact Or.inr ⟨g, e, by omega⟩
theorem sSt_lt {s : XM} (c : Int) : sSt s c < 2 ^ nB s := bts_lt _ _
theorem sSt_31 {s : XM} (k : Ok s) (c : Int) : sSt s c < 4096 := by
  have := sSt_lt (s := s) c
  have := pow12 k.n.2
  omega
theorem c_heaviest_6 {s x : XM} {q : Int → Prop} (h : CF s x) (k : Ok s) (hq : q (hvy s 6)) (n : Nat) : ∀ i : Nat, i ≤ 6 → 6 < i + n → M_X0_heaviest_6 q x n (hvy s i) (if hvy s i = -1 then -1 else sumH s (sSt s (1 + hvy s i))) (i : Int) := by
  induction n with
  | zero => intro i h1 h2; omega
  | succ n ih =>
    intro i h1 h2
    unfold M_X0_heaviest_6
    refine ⟨fun c => by rw [show i = 6 by omega]; exact hq, fun c => ?_⟩
    have ih := ih (i + 1) (by omega) (by omega)
    have e : enc (i : Int) = 1 + i := by unfold enc; rw [if_neg (by omega), if_pos (by omega)]; omega
    refine c_at h k ⟨by omega, by omega⟩ (c_mostHeld h k (by rw [e]; exact sSt_lt _) (m := 12) (by decide) fun t ht => ?_)
    rw [Top_all k ht, e]
    have hb := sumH_b k (sSt s (1 + (i : Int)))
    unfold hvy at ih
    refine ⟨fun d => ⟨rg1 (by omega), ?_⟩, fun d => ⟨fun f => ⟨rg1 (by omega), ?_⟩, fun f => ⟨rg1 (by omega), ?_⟩⟩⟩
    · rw [if_neg (fun z => z.1 (by omega))] at ih
      exact ih
    · rw [if_neg (fun z => by
        rcases z.2 with g | g
        · rw [if_pos g] at f; omega
        · split at f <;> omega)] at ih
      exact ih
    · rw [if_pos ⟨by omega, by
        by_cases g : hvy s i = -1
        · exact Or.inl g
        · rw [if_neg g] at f
          exact Or.inr (by omega)⟩, if_neg (by omega)] at ih
      exact ih
theorem c_heaviest {s x : XM} {q : Int → Prop} (h : CF s x) (k : Ok s) (hq : q (hvy s 6)) : M_X0_heaviest x q := ⟨7, c_heaviest_6 h k hq 7 0 (by omega) (by omega)⟩
theorem r_heaviest_4 {s x : XM} {q : Int → Prop} (h : RF s x) (k : Ok s) (hq : q (hvy s 6)) (n : Nat) : ∀ i : Nat, i ≤ 6 → 6 < i + n → M_X11_heaviest_4 q x n (hvy s i) (i : Int) := by
  induction n with
  | zero => intro i h1 h2; omega
  | succ n ih =>
    intro i h1 h2
    unfold M_X11_heaviest_4
    refine ⟨fun c => by rw [show i = 6 by omega]; exact hq, fun c => ⟨⟨by omega, by omega⟩, ?_⟩⟩
    have ih := ih (i + 1) (by omega) (by omega)
    unfold hvy at ih
    have l1 := sSt_31 k (1 + (i : Int))
    refine r_setIn h k ⟨fun d => iT rfl ⟨rg1 (by omega), ?_⟩, fun d => ⟨fun f => iF (by decide) ⟨rg1 (by omega), ?_⟩, fun f => ?_⟩⟩
    · rw [if_neg (fun z => z.1 (by omega))] at ih
      exact ih
    · rw [if_pos ⟨by omega, Or.inl f⟩] at ih
      exact ih
    · have l2 := sSt_31 k (1 + hvy s i)
      have hg := hvy_ge s i
      refine r_holdsOf h k (by omega) ⟨⟨by omega, by omega⟩, r_setIn h k (r_holdsOf h k (by omega) ⟨fun g => iT rfl ⟨rg1 (by omega), ?_⟩, fun g => iF (by decide) ⟨rg1 (by omega), ?_⟩⟩)⟩
      · rw [if_neg (fun z => by
          rcases z.2 with e | e
          · exact f e
          · omega)] at ih
        exact ih
      · rw [if_pos ⟨by omega, Or.inr (by omega)⟩] at ih
        exact ih
theorem r_heaviest {s x : XM} {q : Int → Prop} (h : RF s x) (k : Ok s) (hq : q (hvy s 6)) : M_X11_heaviest x q := ⟨7, r_heaviest_4 h k hq 7 0 (by omega) (by omega)⟩
/-- what told answers -/
def sTold (s : XM) (v : Int) : Int :=
  if v = 0 then s 0 4 else if v = 1 then s 0 0 else if v = 2 then s 0 1 else if v = 3 then s 0 2 else if v = 4 then s 0 3 else if v = 5 then s 0 6 else
  if v = 6 then ((sSt s 0 : Nat) : Int) else if v = 7 then ((sSt s 7 : Nat) : Int) else if v = 8 then ((bts (pTh s 0) (nB s) : Nat) : Int) else if v = 9 then s 5 30 else
  if v = 10 then ((bts (pTh s 1) (nB s) : Nat) : Int) else if v = 11 then ((bts (pTh s 2) (nB s) : Nat) : Int) else if v = 12 then ((ndiff (2 ^ nR s - 1) (used s (nB s)) : Nat) : Int) else
  if v = 13 then hvy s 6 else if v = 14 then s 0 9 else if v = 15 then s 0 8 else -1000000002
theorem ifs {c : Prop} [Decidable c] {A B : Prop} {a b : Int} {q : Int → Prop} (hq : q (if c then a else b)) (h1 : c → q a → A) (h2 : ¬ c → q b → B) : (c → A) ∧ (¬ c → B) :=
  ⟨fun hc => h1 hc (by rwa [if_pos hc] at hq), fun hc => h2 hc (by rwa [if_neg hc] at hq)⟩
theorem C_told {s x : XM} {v : Int} {q : Int → Prop} (h : CF s x) (k : Ok s) (hq : q (sTold s v)) : M_X10_told x v q := by
  unfold sTold at hq
  refine ifs hq (fun _ hq => c_errs h hq) fun _ hq => ?_
  refine ifs hq (fun _ hq => c_count1 h hq) fun _ hq => ?_
  refine ifs hq (fun _ hq => c_count2 h hq) fun _ hq => ?_
  refine ifs hq (fun _ hq => c_count3 h hq) fun _ hq => ?_
  refine ifs hq (fun _ hq => c_count4 h hq) fun _ hq => ?_
  refine ifs hq (fun _ hq => by rw [← h.e 0 6] at hq; exact hq) fun _ hq => ?_
  refine ifs hq (fun _ hq => c_at h k (by decide) hq) fun _ hq => ?_
  refine ifs hq (fun _ hq => c_at h k (by decide) hq) fun _ hq => ?_
  refine ifs hq (fun _ hq => c_from h k ?_) fun _ hq => ?_
  · have e : bts (fun b => decide (8 ≤ x 5 b ∧ x 5 b < 13)) (nB s) = bts (pTh s 0) (nB s) := by
      refine bts_cong fun i hi => ?_
      have := k.n
      obtain ⟨h1, h2⟩ := h.pl (b := i) (by omega)
      show decide _ = decide _
      rw [decide_eq_decide, h1]
      unfold enc
      split <;> (try split) <;> omega
    rw [e]
    exact hq
  refine ifs hq (fun _ hq => by rw [h.sl] at hq; exact hq) fun _ hq => ?_
  refine ifs hq (fun _ hq => c_out h k ?_) fun _ hq => ?_
  · have e : bts (fun b => decide (sGo s b = -1)) (nB s) = bts (pTh s 1) (nB s) := by
      refine bts_cong fun i hi => ?_
      show decide _ = decide _
      rw [decide_eq_decide]
      rcases sGo_ge k i with e | ⟨⟨g, e, _⟩, f⟩
      · exact ⟨fun _ => e.2, fun _ => e.1⟩
      · exact ⟨fun z => by omega, fun z => absurd z f⟩
    rw [e]
    exact hq
  refine ifs hq (fun _ hq => c_inWrong h k hq) fun _ hq => ?_
  refine ifs hq (fun _ hq => c_idle h k hq) fun _ hq => ?_
  refine ifs hq (fun _ hq => c_heaviest h k hq) fun _ hq => ?_
  refine ifs hq (fun _ hq => by rw [← h.e 0 9] at hq; exact hq) fun _ hq => ?_
  refine ifs hq (fun _ hq => by rw [← h.e 0 8] at hq; exact hq) fun _ hq => ?_
  exact hq
theorem R_told {s x : XM} {v : Int} {q : Int → Prop} (h : RF s x) (k : Ok s) (hq : q (sTold s v)) : M_X11_told x v q := by
  unfold sTold at hq
  refine ifs hq (fun _ hq => by rw [← h.e 0 4] at hq; exact hq) fun _ hq => ?_
  refine ifs hq (fun _ hq => by rw [← h.e 0 0] at hq; exact hq) fun _ hq => ?_
  refine ifs hq (fun _ hq => by rw [← h.e 0 1] at hq; exact hq) fun _ hq => ?_
  refine ifs hq (fun _ hq => by rw [← h.e 0 2] at hq; exact hq) fun _ hq => ?_
  refine ifs hq (fun _ hq => by rw [← h.e 0 3] at hq; exact hq) fun _ hq => ?_
  refine ifs hq (fun _ hq => by rw [← h.e 0 6] at hq; exact hq) fun _ hq => ?_
  refine ifs hq (fun _ hq => r_setIn h k hq) fun _ hq => ?_
  refine ifs hq (fun _ hq => r_setIn h k hq) fun _ hq => ?_
  refine ifs hq (fun _ hq => r_those h k (kind := 0) hq) fun _ hq => ?_
  refine ifs hq (fun _ hq => by rw [← h.nw (by omega)] at hq; exact hq) fun _ hq => ?_
  refine ifs hq (fun _ hq => r_those h k (kind := 1) hq) fun _ hq => ?_
  refine ifs hq (fun _ hq => r_those h k (kind := 2) hq) fun _ hq => ?_
  refine ifs hq (fun _ hq => r_those h k (kind := 3) hq) fun _ hq => ?_
  refine ifs hq (fun _ hq => r_heaviest h k hq) fun _ hq => ?_
  refine ifs hq (fun _ hq => by rw [← h.e 0 9] at hq; exact hq) fun _ hq => ?_
  refine ifs hq (fun _ hq => by rw [← h.e 0 8] at hq; exact hq) fun _ hq => ?_
  exact hq
theorem C_fault {s x : XM} {q : Int → Prop} (h : CF s x) (hq : q (s 0 7)) : M_X10_fault x q := by
  rw [← h.e 0 7] at hq
  exact hq
theorem R_fault {s x : XM} {q : Int → Prop} (h : RF s x) (hq : q (s 0 7)) : M_X11_fault x q := by
  rw [← h.e 0 7] at hq
  exact hq
