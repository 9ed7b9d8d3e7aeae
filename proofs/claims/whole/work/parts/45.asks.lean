/-! ===== button, rule, cause, need, heap ===== -/
theorem inj_surj : ∀ (n : Nat) (f : Nat → Nat), (∀ p, p < n → f p < n) → (∀ p p', p < n → p' < n → f p = f p' → p = p') → ∀ r, r < n → ∃ p, p < n ∧ f p = r
  | 0, _, _, _, r, hr => by omega
  | n + 1, f, h1, h2, r, hr => by
    have ih := inj_surj n (fun p => if f p = n then f n else f p) (fun p hp => by
      have a := h1 p (by omega)
      have b := h1 n (by omega)
      show (if f p = n then f n else f p) < n
      split
      · rename_i e
        by_cases c : f n = n
        · have := h2 p n (by omega) (by omega) (e.trans c.symm)
          omega
        · omega
      · omega) (fun p p' hp hp' e => by
      have e : (if f p = n then f n else f p) = (if f p' = n then f n else f p') := e
      split at e <;> split at e
      · rename_i a b
        exact h2 p p' (by omega) (by omega) (a.trans b.symm)
      · have := h2 n p' (by omega) (by omega) e
        omega
      · have := h2 p n (by omega) (by omega) e
        omega
      · exact h2 p p' (by omega) (by omega) e)
    by_cases c : r = f n
    · exact ⟨n, by omega, c.symm⟩
    · have b := h1 n (by omega)
      by_cases d : r = n
      · obtain ⟨p, hp, e⟩ := ih (f n) (by omega)
        have e : (if f p = n then f n else f p) = f n := e
        split at e
        · rename_i g
          exact ⟨p, by omega, by omega⟩
        · have := h2 p n (by omega) (by omega) e
          omega
      · obtain ⟨p, hp, e⟩ := ih r (by omega)
        have e : (if f p = n then f n else f p) = r := e
        split at e
        · exact absurd e.symm c
        · exact ⟨p, by omega, e⟩
/-- every rule has its place -/
theorem Ok.place {s : XM} (k : Ok s) {r : Nat} (hr : r < nR s) : ∃ p, p < nR s ∧ s 5 (24 + p) = (r : Int) := by
  have h1 := k.r
  obtain ⟨_, _, _, _, _, h6, h7, h8, _⟩ := k.2.2.1
  obtain ⟨p, hp, e⟩ := inj_surj (nR s) (fun p => (s 5 (24 + p)).toNat) (fun p hp => by
    obtain ⟨r, e, hl⟩ := k.or hp
    show (s 5 (24 + p)).toNat < _
    rw [e, Int.toNat_natCast]
    exact hl) (fun p p' hp hp' e => by
    obtain ⟨r, e1, _⟩ := k.or hp
    obtain ⟨r', e2, _⟩ := k.or hp'
    have e : (s 5 (24 + p)).toNat = (s 5 (24 + p')).toNat := e
    refine h8 p p' (by omega) (by omega) ?_
    rw [Nat.zero_add]
    omega) r hr
  obtain ⟨r', e1, _⟩ := k.or hp
  exact ⟨p, hp, by have e : (s 5 (24 + p)).toNat = r := e; omega⟩
def plc (s : XM) (r : Int) : Nat → Nat → Int
  | 0, _ => -1
  | n + 1, p => if s 5 (24 + p) = r then (p : Int) else plc s r n (p + 1)
theorem c_placeOfRule_2 {s x : XM} {q : Int → Prop} {r : Int} (h : CF s x) (k : Ok s) (n : Nat) : ∀ p, p ≤ nR s → nR s < p + n → q (plc s r (nR s - p) p) → M_X0_placeOfRule_2 q x n r (p : Int) := by
  have := k.r
  induction n with
  | zero => intro p h1 h2; omega
  | succ n ih =>
    intro p h1 h2 hq
    unfold M_X0_placeOfRule_2
    refine c_count2 h ⟨fun c => ?_, fun c => ⟨⟨by omega, by omega⟩, ?_⟩⟩
    · rw [show nR s - p = 0 by omega] at hq
      exact hq
    · rw [show nR s - p = (nR s - (p + 1)) + 1 by omega] at hq
      unfold plc at hq
      rw [Int.toNat_natCast, ← h.or (by omega)]
      refine ⟨fun d => ⟨rg1 (by omega), ih (p + 1) (by omega) (by omega) ?_⟩, fun d => ?_⟩
      · rw [if_neg d] at hq
        exact hq
      · rw [if_pos d] at hq
        exact hq
theorem c_placeOfRule {s x : XM} {q : Int → Prop} {r : Int} (h : CF s x) (k : Ok s) (hq : q (plc s r (nR s) 0)) : M_X0_placeOfRule x r q := ⟨nR s + 1, c_placeOfRule_2 h k (nR s + 1) 0 (by omega) (by omega) hq⟩
theorem r_placeOf_2 {s x : XM} {q : Int → Prop} {r : Int} (h : RF s x) (k : Ok s) (n : Nat) : ∀ p, p ≤ nR s → nR s < p + n → (∃ p', p ≤ p' ∧ p' < nR s ∧ s 5 (24 + p') = r) → q (plc s r (nR s - p) p) → M_X11_placeOf_2 q x n r (p : Int) := by
  have := k.r
  induction n with
  | zero => intro p h1 h2; omega
  | succ n ih =>
    intro p h1 h2 ⟨p', a1, a2, a3⟩ hq
    unfold M_X11_placeOf_2
    refine ⟨⟨by omega, by omega⟩, ?_⟩
    rw [show nR s - p = (nR s - (p + 1)) + 1 by omega] at hq
    unfold plc at hq
    rw [show (24 + (p : Int)).toNat = 24 + p by omega, h.nw (by omega)]
    refine ⟨fun d => ?_, fun d => ⟨rg1 (by omega), ih (p + 1) (by omega) (by omega) ⟨p', ?_, a2, a3⟩ ?_⟩⟩
    · rw [if_pos d] at hq
      exact hq
    · by_cases e : p' = p
      · rw [e] at a3
        exact absurd a3 d
      · omega
    · rw [if_neg d] at hq
      exact hq
theorem r_placeOf {s x : XM} {q : Int → Prop} {r : Nat} (h : RF s x) (k : Ok s) (hr : r < nR s) (hq : q (plc s r (nR s) 0)) : M_X11_placeOf x (r : Int) q := by
  obtain ⟨p, hp, e⟩ := k.place hr
  exact ⟨nR s + 1, r_placeOf_2 h k (nR s + 1) 0 (by omega) (by omega) ⟨p, by omega, hp, e⟩ hq⟩
def isN (n v : Int) : Int := if 0 ≤ v ∧ v < n then 1 else 0
theorem c_is {x : XM} {k v n : Int} {q : Int → Prop} (hc : ∀ q : Int → Prop, q n → M_X0_count x k q) (hq : q (isN n v)) : M_X10_isThere x k v q := by
  unfold isN at hq
  refine ⟨fun c => ?_, fun c => hc _ ⟨fun d => ?_, fun d => ?_⟩⟩
  · rwa [if_neg (by omega)] at hq
  · rwa [if_neg (by omega)] at hq
  · rwa [if_pos (by omega)] at hq
theorem c_is1 {s x : XM} {v : Int} {q : Int → Prop} (h : CF s x) (hq : q (isN (s 0 0) v)) : M_X10_isThere x 1 v q := c_is (fun _ => c_count1 h) hq
theorem c_is2 {s x : XM} {v : Int} {q : Int → Prop} (h : CF s x) (hq : q (isN (s 0 1) v)) : M_X10_isThere x 2 v q := c_is (fun _ => c_count2 h) hq
theorem c_is3 {s x : XM} {v : Int} {q : Int → Prop} (h : CF s x) (hq : q (isN (s 0 2) v)) : M_X10_isThere x 3 v q := c_is (fun _ => c_count3 h) hq
theorem c_is4 {s x : XM} {v : Int} {q : Int → Prop} (h : CF s x) (hq : q (isN (s 0 3) v)) : M_X10_isThere x 4 v q := c_is (fun _ => c_count4 h) hq
theorem r_is {x : XM} {n v : Int} {q : Int → Prop} (hq : q (isN n v)) : M_X11_in x v 0 (n - 1) (fun z2 => (z2 = 0 ∨ z2 = 1) ∧ q z2) := by
  unfold isN at hq
  refine r_in ?_
  by_cases c : 0 ≤ v ∧ v < n
  · rw [if_pos c] at hq
    rw [if_pos ⟨c.1, by omega⟩]
    exact ⟨Or.inr rfl, hq⟩
  · rw [if_neg c] at hq
    rw [if_neg (fun d => c ⟨d.1, by omega⟩)]
    exact ⟨Or.inl rfl, hq⟩
theorem r_isButton {s x : XM} {v : Int} {q : Int → Prop} (h : RF s x) (k : Ok s) (hq : q (isN (s 0 0) v)) : M_X11_isButton x v q := by
  have := k.n
  unfold M_X11_isButton
  rw [h.n]
  exact ⟨⟨by omega, by omega⟩, r_is hq⟩
theorem r_isRule {s x : XM} {v : Int} {q : Int → Prop} (h : RF s x) (k : Ok s) (hq : q (isN (s 0 1) v)) : M_X11_isRule x v q := by
  have := k.r
  unfold M_X11_isRule
  rw [h.r]
  exact ⟨⟨by omega, by omega⟩, r_is hq⟩
theorem r_isCause {s x : XM} {v : Int} {q : Int → Prop} (h : RF s x) (k : Ok s) (hq : q (isN (s 0 2) v)) : M_X11_isCause x v q := by
  have := k.c
  unfold M_X11_isCause
  rw [h.c]
  exact ⟨⟨by omega, by omega⟩, r_is hq⟩
theorem r_isNeed {s x : XM} {v : Int} {q : Int → Prop} (h : RF s x) (k : Ok s) (hq : q (isN (s 0 3) v)) : M_X11_isNeed x v q := by
  have := k.w
  unfold M_X11_isNeed
  rw [h.w]
  exact ⟨⟨by omega, by omega⟩, r_is hq⟩
theorem r_isHeap {x : XM} {v : Int} {q : Int → Prop} (hq : q (isN 6 v)) : M_X11_isHeap x v q := r_is hq
theorem c_isHeap {x : XM} {v : Int} {q : Int → Prop} (hq : q (isN 6 v)) : M_X10_isHeap x v q := by
  unfold isN at hq
  refine ⟨fun c => ?_, fun c => ⟨fun d => ?_, fun d => ?_⟩⟩
  · rwa [if_neg (by omega)] at hq
  · rwa [if_neg (by omega)] at hq
  · rwa [if_pos (by omega)] at hq
/-- a thing that is there, or not -/
theorem isN_j {n v : Int} {A B : Prop} {a b : Int} {q : Int → Prop} (hq : q (if 0 ≤ v ∧ v < n then a else b)) (h1 : ∀ w : Nat, v = (w : Int) → (w : Int) < n → q a → A) (h2 : q b → B) : (¬ isN n v = 0 → A) ∧ (isN n v = 0 → B) := by
  unfold isN
  by_cases c : 0 ≤ v ∧ v < n
  · rw [if_pos c] at hq ⊢
    exact jT (by decide) (h1 v.toNat (by omega) (by omega) hq)
  · rw [if_neg c] at hq ⊢
    exact jF rfl (h2 hq)
theorem isN_i {n v : Int} {A B : Prop} {a b : Int} {q : Int → Prop} (hq : q (if 0 ≤ v ∧ v < n then a else b)) (h1 : ∀ w : Nat, v = (w : Int) → (w : Int) < n → q a → A) (h2 : q b → B) : (isN n v = 0 → B) ∧ (¬ isN n v = 0 → A) := by
  have := isN_j hq h1 h2
  exact ⟨this.2, this.1⟩
def sTo (s : XM) (b : Nat) : Int := if s 5 b < 8 then -1 else s 5 b - 8
def sBtn (s : XM) (v1 v2 : Int) : Int := if 0 ≤ v1 ∧ v1 < s 0 0 then (if 0 ≤ v2 ∧ v2 < 4 then sMk s v1.toNat v2.toNat else if v2 = 4 then sHo s v1.toNat else if v2 = 5 then sHp s v1.toNat else if v2 = 6 then sTo s v1.toNat else if v2 = 7 then sGo s v1.toNat else -1000000002) else -1000000001
theorem Ok.pl {s : XM} (k : Ok s) {b : Nat} (hb : b < 12) : 0 ≤ s 5 b ∧ s 5 b ≤ 12 := by
  have := k.2.2.1.1 b hb
  rwa [Nat.zero_add] at this
theorem c_isSewn {s x : XM} {b : Nat} {q : Int → Prop} (h : CF s x) (hb : b < 12 ∧ (0 < s 0 0 ∨ 0 < s 0 1)) (hq : q (if s 5 b < 8 then 0 else 1)) : M_X0_isSewn x (b : Int) q := by
  obtain ⟨h1, h2⟩ := h.pl hb
  rw [h1] at hq
  unfold enc at hq
  refine ⟨⟨by omega, by omega⟩, ?_⟩
  rw [Int.toNat_natCast]
  refine ⟨fun c => ?_, fun c => ?_⟩
  · rwa [if_pos (by split <;> (try split) <;> omega)] at hq
  · rwa [if_neg (by split <;> (try split) <;> omega)] at hq
theorem CF.sw {s x : XM} (h : CF s x) {b : Nat} (hb : b < 12 ∧ (0 < s 0 0 ∨ 0 < s 0 1)) (c : 8 ≤ s 5 b) : x 5 b = s 5 b := by
  obtain ⟨h1, h2⟩ := h.pl hb
  rw [h1] at c ⊢
  unfold enc at c ⊢
  split at c
  · omega
  · split at c
    · omega
    · rw [if_neg (by assumption), if_neg (by assumption)]
theorem C_button {s x : XM} {v1 v2 : Int} {q : Int → Prop} (h : CF s x) (k : Ok s) (hq : q (sBtn s v1 v2)) : M_X10_button x v1 v2 q := by
  have hn := k.n
  refine c_is1 h (isN_j hq (fun w e hw hq => ?_) fun hq => hq)
  subst e
  rw [Int.toNat_natCast] at hq
  have F : ¬ (0 ≤ v2 ∧ v2 < 4) → M_X10_button_31 q x (w : Int) v2 := by
    intro c
    rw [if_neg c] at hq
    refine ifs hq (fun _ hq => c_holds h k (by omega) hq) fun _ hq => ?_
    refine ifs hq (fun _ hq => c_heapOf h (by omega) hq) fun _ hq => ?_
    refine ifs hq (fun _ hq => c_isSewn h (by omega) ?_) fun _ hq => ?_
    · unfold sTo at hq
      by_cases d : s 5 w < 8
      · rw [if_pos d] at hq ⊢
        exact iT rfl hq
      · rw [if_neg d] at hq ⊢
        have := k.pl (b := w) (by omega)
        refine iF (by decide) ⟨⟨by omega, by omega⟩, ?_⟩
        rw [Int.toNat_natCast, h.sw (by omega) (by omega)]
        exact ⟨⟨by omega, by omega⟩, hq⟩
    exact ifs hq (fun _ hq => c_goal h k (by omega) hq) fun _ hq => hq
  refine ⟨fun c => F (by omega), fun c => ⟨fun d => F (by omega), fun d => ?_⟩⟩
  rw [if_pos ⟨by omega, by omega⟩] at hq
  obtain ⟨m, hm⟩ : ∃ m : Nat, v2 = m := ⟨v2.toNat, by omega⟩
  subst hm
  exact c_mark h k (by omega) (by omega) hq
theorem R_button {s x : XM} {v1 v2 : Int} {q : Int → Prop} (h : RF s x) (k : Ok s) (hq : q (sBtn s v1 v2)) : M_X11_button x v1 v2 q := by
  have hn := k.n
  refine r_isButton h k (isN_j hq (fun w e hw hq => ?_) fun hq => hq)
  subst e
  rw [Int.toNat_natCast] at hq
  have F : ∀ m : Nat, m < 4 → v2 = m → M_X11_markOf x (w : Int) v2 (fun z3 => q z3) := by
    intro m hm e
    subst e
    rw [if_pos ⟨by omega, by omega⟩] at hq
    exact r_markOf h k (by omega) hm hq
  refine ⟨fun c => F 0 (by decide) c, fun c0 => ⟨fun c => F 1 (by decide) c, fun c1 => ⟨fun c => F 2 (by decide) c, fun c2 => ⟨fun c => F 3 (by decide) c, fun c3 => ?_⟩⟩⟩⟩
  rw [if_neg (by omega)] at hq
  refine ifs hq (fun _ hq => r_holds h k (by omega) hq) fun _ hq => ?_
  refine ifs hq (fun _ hq => r_heapOf h (by omega) hq) fun _ hq => ?_
  refine ifs hq (fun _ hq => ⟨⟨by omega, by omega⟩, ?_⟩) fun _ hq => ?_
  · have := k.pl (b := w) (by omega)
    rw [Int.toNat_natCast, h.nw (by omega)]
    unfold sTo at hq
    exact ifs hq (fun _ hq => hq) fun _ hq => ⟨⟨by omega, by omega⟩, ⟨by omega, by omega⟩, hq⟩
  exact ifs hq (fun _ hq => r_goes h k (by omega) hq) fun _ hq => hq
def sRul (s : XM) (v1 v2 : Int) : Int := if 0 ≤ v1 ∧ v1 < s 0 1 then (if 0 ≤ v2 ∧ v2 < 4 then s 2 (4 * v1.toNat + v2.toNat) else if v2 = 4 then plc s v1 (nR s) 0 else -1000000002) else -1000000001
theorem C_rule {s x : XM} {v1 v2 : Int} {q : Int → Prop} (h : CF s x) (k : Ok s) (hq : q (sRul s v1 v2)) : M_X10_rule x v1 v2 q := by
  have hn := k.r
  refine c_is2 h (isN_j hq (fun w e hw hq => ?_) fun hq => hq)
  subst e
  rw [Int.toNat_natCast] at hq
  have F : ¬ (0 ≤ v2 ∧ v2 < 4) → M_X10_rule_35 q x (w : Int) v2 := by
    intro c
    rw [if_neg c] at hq
    have := ifs hq (fun _ hq => c_placeOfRule h k hq) fun _ hq => hq
    exact ⟨this.2, this.1⟩
  refine ⟨fun c => F (by omega), fun c => ⟨fun d => F (by omega), fun d => ?_⟩⟩
  rw [if_pos ⟨by omega, by omega⟩] at hq
  obtain ⟨m, hm⟩ : ∃ m : Nat, v2 = m := ⟨v2.toNat, by omega⟩
  subst hm
  exact c_val2 h k (by omega) (by omega) hq
theorem R_rule {s x : XM} {v1 v2 : Int} {q : Int → Prop} (h : RF s x) (k : Ok s) (hq : q (sRul s v1 v2)) : M_X11_rule x v1 v2 q := by
  have hn := k.r
  refine r_isRule h k (isN_j hq (fun w e hw hq => r_in ?_) fun hq => hq)
  subst e
  rw [Int.toNat_natCast] at hq
  by_cases c : 0 ≤ v2 ∧ v2 ≤ 4
  · rw [if_pos c]
    refine jT (by decide) ⟨fun d => ⟨⟨by omega, by omega⟩, ?_⟩, fun d => ?_⟩
    · rw [if_pos ⟨by omega, by omega⟩] at hq
      rw [show (4 * (w : Int) + v2).toNat = 4 * w + v2.toNat by omega, h.ru (by omega)]
      exact hq
    · rw [if_neg (by omega), if_pos d] at hq
      exact r_placeOf h k (by omega) hq
  · rw [if_neg c]
    rw [if_neg (by omega), if_neg (by omega)] at hq
    exact jF rfl hq
def sCau (s : XM) (v1 v2 : Int) : Int := if 0 ≤ v1 ∧ v1 < s 0 2 then (if 0 ≤ v2 ∧ v2 < 4 then s 3 (4 * v1.toNat + v2.toNat) else -1000000002) else -1000000001
theorem C_cause {s x : XM} {v1 v2 : Int} {q : Int → Prop} (h : CF s x) (k : Ok s) (hq : q (sCau s v1 v2)) : M_X10_cause x v1 v2 q := by
  have hn := k.c
  refine c_is3 h (isN_j hq (fun w e hw hq => ?_) fun hq => hq)
  subst e
  rw [Int.toNat_natCast] at hq
  refine ⟨fun c => ?_, fun c => ⟨fun d => ?_, fun d => ?_⟩⟩
  · rwa [if_neg (by omega)] at hq
  · rwa [if_neg (by omega)] at hq
  rw [if_pos ⟨by omega, by omega⟩] at hq
  obtain ⟨m, hm⟩ : ∃ m : Nat, v2 = m := ⟨v2.toNat, by omega⟩
  subst hm
  exact c_val3 h k (by omega) (by omega) hq
theorem R_cause {s x : XM} {v1 v2 : Int} {q : Int → Prop} (h : RF s x) (k : Ok s) (hq : q (sCau s v1 v2)) : M_X11_cause x v1 v2 q := by
  have hn := k.c
  refine r_isCause h k (isN_j hq (fun w e hw hq => r_in ?_) fun hq => hq)
  subst e
  rw [Int.toNat_natCast] at hq
  by_cases c : 0 ≤ v2 ∧ v2 ≤ 3
  · rw [if_pos c]
    refine iF (by decide) ⟨⟨by omega, by omega⟩, ?_⟩
    rw [if_pos ⟨by omega, by omega⟩] at hq
    rw [show (4 * (w : Int) + v2).toNat = 4 * w + v2.toNat by omega, h.ca (by omega)]
    exact hq
  · rw [if_neg c]
    rw [if_neg (by omega)] at hq
    exact iT rfl hq
theorem lstI_eq {p : Nat → Bool} {c : Nat} (hc : p c = true) : ∀ n, c < n → (∀ b, b < n → p b = true → b = c) → lstI p n = (c : Int)
  | 0, h, _ => by omega
  | n + 1, h, hu => by
    unfold lstI
    split
    · rename_i e
      have := hu n (by omega) e
      omega
    · rename_i e
      refine lstI_eq hc n ?_ fun b hb => hu b (by omega)
      by_cases d : c = n
      · rw [d] at hc
        exact absurd hc e
      · omega
theorem lstI_no {p : Nat → Bool} : ∀ n, (∀ b, b < n → p b = false) → lstI p n = -1
  | 0, _ => rfl
  | n + 1, h => by
    unfold lstI
    rw [h n (by omega), if_neg (by decide)]
    exact lstI_no n fun b hb => h b (by omega)
theorem Ok.one {s : XM} (k : Ok s) {b c : Nat} (hb : b < 12) (hc : c < 12) (h8 : 8 ≤ s 5 b) (e : s 5 b = s 5 c) : b = c := by
  have := k.2.2.1.2.2.1 b c hb hc
  rw [Nat.zero_add, Nat.zero_add] at this
  exact this h8 e
theorem sSw_c {s : XM} (k : Ok s) {c : Int} (hc : 8 ≤ c) : sSw s c = if sSt s c = 0 then -1 else ((ctz (sSt s c) 12 : Nat) : Int) := by
  have hn := k.n
  have bb : ∀ b, (sSt s c).testBit b = (decide (b < nB s) && decide (s 5 b = c)) := fun b => bts_bit _ _ _
  by_cases e : sSt s c = 0
  · rw [if_pos e]
    refine lstI_no _ fun b hb => ?_
    have := bb b
    rw [e, Nat.zero_testBit, decide_eq_true hb, Bool.true_and] at this
    exact this.symm
  · rw [if_neg e]
    have := ctz_p (sSt s c) (sSt_31 k c) (by omega)
    have h1 := this.1
    rw [bb, Bool.and_eq_true, decide_eq_true_eq, decide_eq_true_eq] at h1
    refine lstI_eq (by show decide _ = true; rw [decide_eq_true_eq]; exact h1.2) _ h1.1 fun b hb hp => ?_
    have hp : decide (s 5 b = c) = true := hp
    rw [decide_eq_true_eq] at hp
    exact k.one (by omega) (by omega) (by omega) (hp.trans h1.2.symm)
theorem c_sewnTo {s x : XM} {v : Int} {q : Int → Prop} (h : CF s x) (k : Ok s) (hv : 0 ≤ v ∧ v < 5) (hq : q (sSw s (8 + v))) : M_X0_sewnTo x v q := by
  refine ⟨⟨by omega, by omega⟩, c_at h k ⟨by omega, by omega⟩ ?_⟩
  have e : enc (8 + v) = 8 + v := by unfold enc; rw [if_neg (by omega), if_neg (by omega)]
  rw [e]
  rw [sSw_c k (by omega)] at hq
  have := sSt_31 k (8 + v)
  refine ⟨fun c => s_ntz (by omega) (by omega) ?_, fun c => ?_⟩
  · rwa [if_neg (by omega)] at hq
  · rwa [if_pos (by omega)] at hq
theorem r_sewnTo_4 {s x : XM} {v : Int} {q : Int → Prop} (h : RF s x) (k : Ok s) (hv : 0 ≤ v ∧ v < 5) (hq : q (sSw s (8 + v))) (n : Nat) : ∀ b, b ≤ nB s → nB s < b + n → M_X11_sewnTo_4 q x n v (lstI (fun b => decide (s 5 b = 8 + v)) b) (b : Int) := by
  have hn := k.n
  induction n with
  | zero => intro b h1 h2; omega
  | succ n ih =>
    intro b h1 h2
    unfold M_X11_sewnTo_4
    rw [h.n]
    refine ⟨fun c => ?_, fun c => ⟨⟨by omega, by omega⟩, ⟨by omega, by omega⟩, ?_⟩⟩
    · rw [show b = nB s by omega]
      exact hq
    · have ih := ih (b + 1) (by omega) (by omega)
      unfold lstI at ih
      rw [Int.toNat_natCast, h.nw (by omega)]
      refine ⟨fun d => ⟨rg1 (by omega), ?_⟩, fun d => ⟨rg1 (by omega), ?_⟩⟩
      · rw [if_neg (by simp; exact d)] at ih
        exact ih
      · rw [if_pos (by simp; exact d)] at ih
        exact ih
theorem r_sewnTo {s x : XM} {v : Int} {q : Int → Prop} (h : RF s x) (k : Ok s) (hv : 0 ≤ v ∧ v < 5) (hq : q (sSw s (8 + v))) : M_X11_sewnTo x v q := ⟨nB s + 1, r_sewnTo_4 h k hv hq (nB s + 1) 0 (by omega) (by omega)⟩
def sNee (s : XM) (v1 v2 : Int) : Int := if 0 ≤ v1 ∧ v1 < s 0 3 then (if v2 = 0 then s 4 v1.toNat else if v2 = 1 then sSw s (8 + v1) else -1000000002) else -1000000001
theorem C_need {s x : XM} {v1 v2 : Int} {q : Int → Prop} (h : CF s x) (k : Ok s) (hq : q (sNee s v1 v2)) : M_X10_need x v1 v2 q := by
  have hn := k.w
  refine c_is4 h (isN_j hq (fun w e hw hq => ?_) fun hq => hq)
  subst e
  refine ifs hq (fun _ hq => c_val4 h k (by omega) hq) fun _ hq => ?_
  exact ifs hq (fun _ hq => c_sewnTo h k ⟨by omega, by omega⟩ hq) fun _ hq => hq
theorem R_need {s x : XM} {v1 v2 : Int} {q : Int → Prop} (h : RF s x) (k : Ok s) (hq : q (sNee s v1 v2)) : M_X11_need x v1 v2 q := by
  have hn := k.w
  refine r_isNeed h k (isN_j hq (fun w e hw hq => r_in ?_) fun hq => hq)
  subst e
  by_cases c : 0 ≤ v2 ∧ v2 ≤ 1
  · rw [if_pos c]
    refine jT (by decide) ⟨fun d => ?_, fun d => ⟨⟨by omega, by omega⟩, ?_⟩⟩
    · rw [if_neg d, if_pos (by omega)] at hq
      exact r_sewnTo h k ⟨by omega, by omega⟩ hq
    · rw [if_pos d] at hq
      rw [Int.toNat_natCast] at hq ⊢
      rw [h.ne hw]
      exact hq
  · rw [if_neg c]
    rw [if_neg (by omega), if_neg (by omega)] at hq
    exact jF rfl hq
def sHea (s : XM) (v : Int) : Int := if 0 ≤ v ∧ v < 6 then ((sSt s (1 + v) : Nat) : Int) else -1000000002
theorem C_heap {s x : XM} {v : Int} {q : Int → Prop} (h : CF s x) (k : Ok s) (hq : q (sHea s v)) : M_X10_heap x v q := by
  refine c_isHeap (isN_i hq (fun w e hw hq => c_at h k ⟨by omega, by omega⟩ ?_) fun hq => hq)
  have e : enc v = 1 + v := by unfold enc; rw [if_neg (by omega), if_pos (by omega)]; omega
  rw [e]
  exact hq
theorem R_heap {s x : XM} {v : Int} {q : Int → Prop} (h : RF s x) (k : Ok s) (hq : q (sHea s v)) : M_X11_heap x v q :=
  r_isHeap (isN_i hq (fun w e hw hq => ⟨⟨by omega, by omega⟩, r_setIn h k hq⟩) fun hq => hq)
