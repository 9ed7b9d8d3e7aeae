/-! ===== the text: what a reading of it gives ===== -/
def nX (s : XM) : Nat := (s 0 6).toNat
theorem ok_x {s : XM} (k : Ok s) : s 0 6 = (nX s : Int) ∧ nX s ≤ 240 := by
  have := k.1.2.2.2.2.2.2.1
  unfold nX
  omega
theorem ok_t {s : XM} (k : Ok s) {j : Nat} (hj : j < nX s) : 0 ≤ s 8 j ∧ s 8 j ≤ 255 := k.2.2.2.2.2.2 j (by have := ok_x k; omega)
def sk (s : XM) : Nat → Nat → Nat
  | 0, p => p
  | f + 1, p => if p < nX s ∧ s 8 p = 32 then sk s f (p + 1) else p
/-- past the spaces -/
def skp (s : XM) (p : Nat) : Nat := sk s (nX s - p) p
theorem skp_y {s : XM} {p : Nat} (h : p < nX s ∧ s 8 p = 32) : skp s p = skp s (p + 1) := by
  unfold skp
  rw [show nX s - p = (nX s - (p + 1)) + 1 by omega]
  exact if_pos h
theorem skp_n {s : XM} {p : Nat} (h : ¬ (p < nX s ∧ s 8 p = 32)) : skp s p = p := by
  unfold skp
  cases e : nX s - p with
  | zero => rfl
  | succ f => exact if_neg h
theorem skp_f {s : XM} : ∀ f p, nX s < p + f → p ≤ nX s → p ≤ skp s p ∧ skp s p ≤ nX s ∧ ¬ (skp s p < nX s ∧ s 8 (skp s p) = 32)
  | 0, p, h1, h2 => by omega
  | f + 1, p, h1, h2 => by
    by_cases c : p < nX s ∧ s 8 p = 32
    · rw [skp_y c]
      have := skp_f (s := s) f (p + 1) (by omega) (by omega)
      exact ⟨by omega, this.2⟩
    · rw [skp_n c]
      exact ⟨Nat.le_refl _, h2, c⟩
theorem skp_p {s : XM} {p : Nat} (h : p ≤ nX s) : p ≤ skp s p ∧ skp s p ≤ nX s ∧ ¬ (skp s p < nX s ∧ s 8 (skp s p) = 32) := skp_f (nX s + 1) p (by omega) h
theorem skp_i {s : XM} {p : Nat} (h : p ≤ nX s) : skp s (skp s p) = skp s p := skp_n (skp_p h).2.2
def fig (s : XM) (p : Nat) : Bool := decide (p < nX s ∧ 48 ≤ s 8 p ∧ s 8 p ≤ 57)
theorem fig_t {s : XM} {p : Nat} : fig s p = true ↔ p < nX s ∧ 48 ≤ s 8 p ∧ s 8 p ≤ 57 := decide_eq_true_iff
def dg (s : XM) : Nat → Nat → Nat
  | 0, p => p
  | f + 1, p => if fig s p = true then dg s f (p + 1) else p
/-- past the figures -/
def dge (s : XM) (p : Nat) : Nat := dg s (nX s - p) p
theorem dge_y {s : XM} {p : Nat} (h : fig s p = true) : dge s p = dge s (p + 1) := by
  have := (fig_t.1 h).1
  unfold dge
  rw [show nX s - p = (nX s - (p + 1)) + 1 by omega]
  exact if_pos h
theorem dge_n {s : XM} {p : Nat} (h : ¬ fig s p = true) : dge s p = p := by
  unfold dge
  cases e : nX s - p with
  | zero => rfl
  | succ f => exact if_neg h
theorem dge_f {s : XM} : ∀ f p, nX s < p + f → p ≤ nX s → p ≤ dge s p ∧ dge s p ≤ nX s ∧ ∀ j, p ≤ j → j < dge s p → fig s j = true
  | 0, p, h1, h2 => by omega
  | f + 1, p, h1, h2 => by
    by_cases c : fig s p = true
    · rw [dge_y c]
      have hp := (fig_t.1 c).1
      have := dge_f (s := s) f (p + 1) (by omega) (by omega)
      refine ⟨by omega, this.2.1, fun j h3 h4 => ?_⟩
      by_cases d : j = p
      · rw [d]; exact c
      · exact this.2.2 j (by omega) h4
    · rw [dge_n c]
      exact ⟨Nat.le_refl _, h2, fun j h3 h4 => by omega⟩
theorem dge_p {s : XM} {p : Nat} (h : p ≤ nX s) : p ≤ dge s p ∧ dge s p ≤ nX s ∧ ∀ j, p ≤ j → j < dge s p → fig s j = true := dge_f (nX s + 1) p (by omega) h
/-- the number that c figures from a on say -/
def va (s : XM) (a : Nat) : Nat → Int
  | 0 => 0
  | c + 1 => 10 * va s a c + s 8 (a + c) - 48
def tenp : Nat → Int
  | 0 => 1
  | c + 1 => 10 * tenp c
theorem va_f {s : XM} {a : Nat} : ∀ c, (∀ j, j < c → fig s (a + j) = true) → 0 ≤ va s a c ∧ va s a c < tenp c
  | 0, _ => ⟨Int.le_refl 0, (by decide : (0 : Int) < 1)⟩
  | c + 1, h => by
    have := va_f (s := s) (a := a) c fun j hj => h j (by omega)
    have := fig_t.1 (h c (by omega))
    unfold va tenp
    omega
theorem va_b {s : XM} {a c : Nat} (h : ∀ j, j < c → fig s (a + j) = true) (hc : c ≤ 4) : 0 ≤ va s a c ∧ va s a c < 10000 := by
  have := va_f c h
  have t : ∀ c, c < 5 → tenp c ≤ 10000 := by decide
  have := t c (by omega)
  omega
def vn (s : XM) (a : Nat) : Int := va s a (dge s a - a)
def bad (s : XM) (lo hi : Int) (a : Nat) : Bool := decide (3 < dge s a - a ∨ vn s a < lo ∨ hi < vn s a)
theorem bad_t {s : XM} {lo hi : Int} {a : Nat} : bad s lo hi a = true ↔ (3 < dge s a - a ∨ vn s a < lo ∨ hi < vn s a) := decide_eq_true_iff
/-- a number read at p: the fault, the place after it, the number -/
def nuC (s : XM) (lo hi : Int) (c : Int) (p : Nat) : Int := if ¬ c = 0 then c else if ¬ fig s (skp s p) = true then 1 else if bad s lo hi (skp s p) = true then 2 else 0
def nuP (s : XM) (lo hi : Int) (c : Int) (p : Nat) : Nat := if ¬ c = 0 then p else if ¬ fig s (skp s p) = true then skp s p else if bad s lo hi (skp s p) = true then skp s p else dge s (skp s p)
def nuV (s : XM) (lo hi : Int) (c : Int) (p : Nat) : Int := if ¬ c = 0 then lo else if ¬ fig s (skp s p) = true then lo else if bad s lo hi (skp s p) = true then lo else vn s (skp s p)
def eC (s : XM) (c : Int) (p : Nat) : Int := if ¬ c = 0 then c else if skp s p < nX s ∧ s 8 (skp s p) = 59 then 0 else 1
def eP (s : XM) (c : Int) (p : Nat) : Nat := if ¬ c = 0 then p else if skp s p < nX s ∧ s 8 (skp s p) = 59 then skp s p + 1 else skp s p
theorem nu_s {s : XM} {lo hi c : Int} {p : Nat} (h : ¬ c = 0) : nuC s lo hi c p = c ∧ nuP s lo hi c p = p ∧ nuV s lo hi c p = lo := ⟨if_pos h, if_pos h, if_pos h⟩
theorem nu_1 {s : XM} {lo hi : Int} {p : Nat} (h : ¬ fig s (skp s p) = true) : nuC s lo hi 0 p = 1 ∧ nuP s lo hi 0 p = skp s p ∧ nuV s lo hi 0 p = lo := by
  unfold nuC nuP nuV
  refine ⟨?_, ?_, ?_⟩ <;> rw [if_neg (show ¬ ¬ (0 : Int) = 0 by decide), if_pos h]
theorem nu_2 {s : XM} {lo hi : Int} {p : Nat} (h : fig s (skp s p) = true) (hb : bad s lo hi (skp s p) = true) : nuC s lo hi 0 p = 2 ∧ nuP s lo hi 0 p = skp s p ∧ nuV s lo hi 0 p = lo := by
  unfold nuC nuP nuV
  refine ⟨?_, ?_, ?_⟩ <;> rw [if_neg (show ¬ ¬ (0 : Int) = 0 by decide), if_neg (show ¬ ¬ fig s (skp s p) = true from fun g => g h), if_pos hb]
theorem nu_0 {s : XM} {lo hi : Int} {p : Nat} (h : fig s (skp s p) = true) (hb : ¬ bad s lo hi (skp s p) = true) : nuC s lo hi 0 p = 0 ∧ nuP s lo hi 0 p = dge s (skp s p) ∧ nuV s lo hi 0 p = vn s (skp s p) := by
  unfold nuC nuP nuV
  refine ⟨?_, ?_, ?_⟩ <;> rw [if_neg (show ¬ ¬ (0 : Int) = 0 by decide), if_neg (show ¬ ¬ fig s (skp s p) = true from fun g => g h), if_neg hb]
theorem nuP_b {s : XM} {lo hi c : Int} {p : Nat} (h : p ≤ nX s) : p ≤ nuP s lo hi c p ∧ nuP s lo hi c p ≤ nX s := by
  have h1 := skp_p h
  have h2 := dge_p h1.2.1
  unfold nuP
  split
  · exact ⟨Nat.le_refl _, h⟩
  · split
    · exact ⟨h1.1, h1.2.1⟩
    · split
      · exact ⟨h1.1, h1.2.1⟩
      · exact ⟨by omega, h2.2.1⟩
theorem eP_b {s : XM} {c : Int} {p : Nat} (h : p ≤ nX s) : p ≤ eP s c p ∧ eP s c p ≤ nX s ∧ (eC s c p = 0 → p < eP s c p) := by
  have h1 := skp_p h
  unfold eP eC
  by_cases d : ¬ c = 0
  · rw [if_pos d, if_pos d]
    exact ⟨Nat.le_refl _, h, fun e => absurd e d⟩
  · rw [if_neg d, if_neg d]
    by_cases g : skp s p < nX s ∧ s 8 (skp s p) = 59
    · rw [if_pos g, if_pos g]
      exact ⟨by omega, by omega, fun _ => by omega⟩
    · rw [if_neg g, if_neg g]
      exact ⟨h1.1, h1.2.1, fun e => by omega⟩
theorem nuV_b {s : XM} {lo hi c : Int} {p : Nat} (h : lo ≤ hi) : lo ≤ nuV s lo hi c p ∧ nuV s lo hi c p ≤ hi := by
  unfold nuV
  split
  · exact ⟨Int.le_refl _, h⟩
  · split
    · exact ⟨Int.le_refl _, h⟩
    · split
      · exact ⟨Int.le_refl _, h⟩
      · rename_i _ _ e
        have : ¬ (3 < dge s (skp s p) - skp s p ∨ vn s (skp s p) < lo ∨ hi < vn s (skp s p)) := fun g => e (bad_t.2 g)
        omega
/-- m numbers of a clause of the kind k, read from p on -/
def sq (s : XM) (k p : Nat) : Nat → Int × Nat
  | 0 => (0, p)
  | m + 1 => (nuC s (sI 3 (k * 4 + m)) (sI 4 (k * 4 + m)) (sq s k p m).1 (sq s k p m).2, nuP s (sI 3 (k * 4 + m)) (sI 4 (k * 4 + m)) (sq s k p m).1 (sq s k p m).2)
def vq (s : XM) (k p m : Nat) : Int := nuV s (sI 3 (k * 4 + m)) (sI 4 (k * 4 + m)) (sq s k p m).1 (sq s k p m).2
theorem sq_b {s : XM} {k p : Nat} (h : p ≤ nX s) : ∀ m, p ≤ (sq s k p m).2 ∧ (sq s k p m).2 ≤ nX s
  | 0 => ⟨Nat.le_refl _, h⟩
  | m + 1 => by
    have h1 := sq_b (k := k) h m
    have h2 := nuP_b (lo := sI 3 (k * 4 + m)) (hi := sI 4 (k * 4 + m)) (c := (sq s k p m).1) h1.2
    show p ≤ nuP s (sI 3 (k * 4 + m)) (sI 4 (k * 4 + m)) (sq s k p m).1 (sq s k p m).2 ∧ nuP s (sI 3 (k * 4 + m)) (sI 4 (k * 4 + m)) (sq s k p m).1 (sq s k p m).2 ≤ nX s
    exact ⟨Nat.le_trans h1.1 h2.1, h2.2⟩
theorem sq_s {s : XM} {k p m : Nat} (h : ¬ (sq s k p m).1 = 0) : ∀ j, sq s k p (m + j) = sq s k p m
  | 0 => rfl
  | j + 1 => by
    have e := sq_s h j
    show (nuC s _ _ (sq s k p (m + j)).1 (sq s k p (m + j)).2, nuP s _ _ (sq s k p (m + j)).1 (sq s k p (m + j)).2) = _
    rw [e]
    unfold nuC nuP
    rw [if_pos h, if_pos h]
def tmx (k : Nat) : Nat := ([1, 12, 6, 5, 5] : List Nat).getD k 0
def tbk (k : Nat) : Nat := ([0, 1, 13, 19, 24] : List Nat).getD k 0
def tnk (k : Nat) : Nat := ([1, 4, 4, 4, 1] : List Nat).getD k 0
theorem sI_tab : ∀ k, k < 5 → sI 0 k = (tmx k : Int) ∧ sI 1 k = (tbk k : Int) ∧ sI 2 k = (tnk k : Int) ∧ tnk k ≤ 4 ∧ 1 ≤ tnk k ∧ tbk k + tmx k ≤ 29 := by decide
theorem sI_lo : ∀ j, j < 20 → 0 ≤ sI 3 j ∧ sI 3 j ≤ sI 4 j ∧ sI 4 j ≤ 999 := by decide
def cC (s : XM) (k p : Nat) : Int := eC s (sq s k p (tnk k)).1 (sq s k p (tnk k)).2
def cP (s : XM) (k p : Nat) : Nat := eP s (sq s k p (tnk k)).1 (sq s k p (tnk k)).2
theorem cP_b {s : XM} {k p : Nat} (h : p ≤ nX s) : p ≤ cP s k p ∧ cP s k p ≤ nX s := by
  have h1 := sq_b (k := k) h (tnk k)
  have h2 := eP_b (c := (sq s k p (tnk k)).1) h1.2
  exact ⟨Nat.le_trans h1.1 h2.1, h2.2.1⟩
def kd (z : Int) : Nat := if z = 116 then 0 else if z = 98 then 1 else if z = 114 then 2 else if z = 117 then 3 else if z = 110 then 4 else 5
def upC (C : Nat → Nat) (k : Nat) : Nat → Nat := fun j => if j = k then C j + 1 else C j
def upD (D : Nat → Int) (b n : Nat) (v : Nat → Int) : Nat → Int := fun j => if b ≤ j ∧ j < b + n then v (j - b) else D j
/-- the whole reading: fault, place, counts, values -/
def pr (s : XM) : Nat → Nat → (Nat → Nat) → (Nat → Int) → Int × Nat × (Nat → Nat) × (Nat → Int)
  | 0, p, C, D => (0, p, C, D)
  | f + 1, p, C, D =>
    if nX s ≤ skp s p then (0, skp s p, C, D)
    else if kd (s 8 (skp s p)) = 5 ∨ (¬ kd (s 8 (skp s p)) = 0 ∧ C 0 = 0) then (1, skp s p, C, D)
    else if tmx (kd (s 8 (skp s p))) ≤ C (kd (s 8 (skp s p))) then (3, skp s p, C, D)
    else if cC s (kd (s 8 (skp s p))) (skp s p + 1) = 0 then pr s f (cP s (kd (s 8 (skp s p))) (skp s p + 1)) (upC C (kd (s 8 (skp s p)))) (upD D (4 * (tbk (kd (s 8 (skp s p))) + C (kd (s 8 (skp s p))))) (tnk (kd (s 8 (skp s p)))) (vq s (kd (s 8 (skp s p))) (skp s p + 1)))
    else (cC s (kd (s 8 (skp s p))) (skp s p + 1), cP s (kd (s 8 (skp s p))) (skp s p + 1), C, D)
