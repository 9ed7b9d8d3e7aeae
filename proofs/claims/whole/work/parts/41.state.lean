/-! ===== what a state of both sides is: s, in the reference's own layout ===== -/
def enc (z : Int) : Int := if z = 6 then 0 else if z < 6 then z + 1 else z
def tbit (t : Int) (b : Nat) : Int := if t.toNat.testBit b then 1 else 0
def snap (x : XM) (kc j : Nat) : Int := if j < 12 then enc (x (kc + 1) j) else if j < 24 then tbit (x kc 2) (j - 12) else if j < 30 then x (kc + 2) (j - 24) else x kc 3
def msk (n r : Int) (c : Nat) (z : Int) : Int := if n = 0 ∧ r = 0 ∧ c < 30 then 0 else z
def ringc (x : XM) (i : Nat) : Nat := 12 + 3 * (((x 10 1).toNat + 16 - (x 10 2).toNat + i) % 16)
def rS (x : XM) : XM := fun k j => match k with
  | 0 => (match j with | 0 => x 83 3 | 1 => x 83 5 | 2 => x 83 7 | 3 => x 83 9 | 4 => x 83 2 | 5 => x 83 20 | 6 => x 83 1 | 7 => x 83 21 | 8 => x 83 27 | 9 => x 83 38 | 10 => x 83 31 | 11 => x 97 0 | 12 => x 97 1 | _ => 0)
  | 1 => if (j : Int) < 4 * x 83 3 then x 85 j else 0
  | 2 => if (j : Int) < 4 * x 83 5 then x 86 j else 0
  | 3 => if (j : Int) < 4 * x 83 7 then x 87 j else 0
  | 4 => if (j : Int) < x 83 9 then x 88 j else 0
  | 5 => if j < 31 then msk (x 83 3) (x 83 5) j (x 93 j) else 0
  | 6 => if (j : Int) < 31 * x 83 27 then msk (x 83 3) (x 83 5) (j % 31) (x 94 j) else 0
  | 7 => if j < 62 ∧ x 97 (j / 31) = 1 then msk (x 83 3) (x 83 5) (j % 31) (x 95 j) else 0
  | 8 => if (j : Int) < x 83 1 then x 84 j % 256 else 0
  | 9 => if (j : Int) < x 83 38 then x 101 j else 0
  | 10 => if (j : Int) < x 83 38 then x 102 j else 0
  | 11 => if j < 2 ∧ x 97 j = 1 then x 96 j else 0
  | _ => 0
def cS (x : XM) : XM := fun k j => match k with
  | 0 => (match j with | 0 => x (tid (x 3 1) + 1) 1 | 1 => x (tid (x 3 1) + 1) 2 | 2 => x (tid (x 3 1) + 1) 3 | 3 => x (tid (x 3 1) + 1) 4 | 4 => if x (tid (x 3 1) + 1) 0 = 0 then 0 else x (tid (x 3 1) + 2) 0 | 5 => x (tid (x 3 1) + 1) 0 | 6 => x 1 1 | 7 => x 0 9 | 8 => x 10 2 | 9 => x 60 2 | 10 => x 63 0 | 11 => x 75 2 | 12 => x 79 2 | _ => 0)
  | 1 => if (j : Int) < 4 * x (tid (x 3 1) + 1) 1 then x (tid (x 3 1) + 2) (4 + j) else 0
  | 2 => if (j : Int) < 4 * x (tid (x 3 1) + 1) 2 then x (tid (x 3 1) + 2) (52 + j) else 0
  | 3 => if (j : Int) < 4 * x (tid (x 3 1) + 1) 3 then x (tid (x 3 1) + 2) (76 + j) else 0
  | 4 => if (j : Int) < x (tid (x 3 1) + 1) 4 then x (tid (x 3 1) + 2) (96 + 4 * j) else 0
  | 5 => if j < 31 then msk (x (tid (x 3 1) + 1) 1) (x (tid (x 3 1) + 1) 2) j (snap x 4 j) else 0
  | 6 => if (j : Int) < 31 * x 10 2 then msk (x (tid (x 3 1) + 1) 1) (x (tid (x 3 1) + 1) 2) (j % 31) (snap x (ringc x (j / 31)) (j % 31)) else 0
  | 7 => if j < 62 ∧ x (75 + 4 * (j / 31)) 2 = 1 then msk (x (tid (x 3 1) + 1) 1) (x (tid (x 3 1) + 1) 2) (j % 31) (snap x (76 + 4 * (j / 31)) (j % 31)) else 0
  | 8 => if (j : Int) < x 1 1 then x 2 j else 0
  | 9 => if (j : Int) < x 60 2 then x 61 j else 0
  | 10 => if (j : Int) < x 60 2 then x 62 j else 0
  | 11 => if j < 2 ∧ x (75 + 4 * j) 2 = 1 then x (75 + 4 * j) 1 else 0
  | _ => 0
/-- a cloth's own bounds -/
def CK (x : XM) (kc : Nat) : Prop := (∀ b, b < 12 → 0 ≤ x (kc + 1) b ∧ x (kc + 1) b ≤ 12) ∧ 0 ≤ x kc 2 ∧ x kc 2 < 4096
def CI (x : XM) : Prop := ((x 3 1 = 0 ∧ x 0 8 = 1) ∨ (x 3 1 = 1 ∧ x 0 8 = 0)) ∧ (∀ kc, (lay kc).1 = 2 → CK x kc) ∧ 0 ≤ x 10 1 ∧ x 10 1 < 16
def MI (x : XM) : Prop := ∀ j, -128 ≤ x 84 j ∧ x 84 j < 128
def CF (s x : XM) : Prop := cS x = s ∧ CI x
def RF (s x : XM) : Prop := rS x = s ∧ MI x
/-- a snapshot at s k, from o on -/
def SnOk (s : XM) (k o : Nat) : Prop := (∀ b, b < 12 → 0 ≤ s k (o + b) ∧ s k (o + b) ≤ 12) ∧ (∀ b : Nat, b < 12 → s 0 0 ≤ (b : Int) → s k (o + b) = 0) ∧ (∀ b c, b < 12 → c < 12 → 8 ≤ s k (o + b) → s k (o + b) = s k (o + c) → b = c) ∧ (∀ b, b < 12 → s k (o + 12 + b) = 0 ∨ s k (o + 12 + b) = 1) ∧ (∀ b : Nat, b < 12 → s 0 0 ≤ (b : Int) → s k (o + 12 + b) = 0) ∧ (∀ p, p < 6 → 0 ≤ s k (o + 24 + p) ∧ s k (o + 24 + p) < 6) ∧ (∀ p : Nat, (p : Int) < s 0 1 → s k (o + 24 + p) < s 0 1) ∧ (∀ p p' : Nat, (p : Int) < s 0 1 → (p' : Int) < s 0 1 → s k (o + 24 + p) = s k (o + 24 + p') → p = p') ∧ (0 ≤ s k (o + 30) ∧ s k (o + 30) ≤ 999999)
def OkN (s : XM) : Prop := (0 ≤ s 0 0 ∧ s 0 0 ≤ 12) ∧ (0 ≤ s 0 1 ∧ s 0 1 ≤ 6) ∧ (0 ≤ s 0 2 ∧ s 0 2 ≤ 5) ∧ (0 ≤ s 0 3 ∧ s 0 3 ≤ 5) ∧ (0 ≤ s 0 4 ∧ s 0 4 ≤ 100) ∧ (s 0 5 = 0 ∨ s 0 5 = 1) ∧ (0 ≤ s 0 6 ∧ s 0 6 ≤ 240) ∧ (-1 ≤ s 0 7 ∧ s 0 7 ≤ 240) ∧ (0 ≤ s 0 8 ∧ s 0 8 ≤ 16) ∧ (0 ≤ s 0 9 ∧ s 0 9 ≤ 15) ∧ (0 ≤ s 0 10 ∧ s 0 10 < 2147483648)
def MkOk (s : XM) (k b : Nat) : Prop := (0 ≤ s k (4 * b) ∧ s k (4 * b) ≤ 4) ∧ (1 ≤ s k (4 * b + 1) ∧ s k (4 * b + 1) ≤ 9) ∧ (0 ≤ s k (4 * b + 2) ∧ s k (4 * b + 2) ≤ 5) ∧ (0 ≤ s k (4 * b + 3) ∧ s k (4 * b + 3) ≤ 1)
def RuOk (s : XM) (r : Nat) : Prop := (0 ≤ s 2 (4 * r) ∧ s 2 (4 * r) ≤ 3) ∧ (0 ≤ s 2 (4 * r + 1) ∧ s 2 (4 * r + 1) ≤ 2) ∧ (0 ≤ s 2 (4 * r + 2) ∧ s 2 (4 * r + 2) ≤ 9) ∧ (0 ≤ s 2 (4 * r + 3) ∧ s 2 (4 * r + 3) ≤ 5)
def OkT (s : XM) : Prop := (∀ b : Nat, (b : Int) < s 0 0 → MkOk s 1 b) ∧ (∀ r : Nat, (r : Int) < s 0 1 → RuOk s r) ∧ (∀ c : Nat, (c : Int) < s 0 2 → MkOk s 3 c) ∧ (∀ n : Nat, (n : Int) < s 0 3 → 0 ≤ s 4 n ∧ s 4 n ≤ 99)
def OkP (s : XM) : Prop := ∀ i : Nat, (i : Int) < s 0 8 → SnOk s 6 (31 * i)
def OkI (s : XM) : Prop := ∀ i : Nat, i < 2 → s 0 (11 + i) = 0 ∨ (s 0 (11 + i) = 1 ∧ SnOk s 7 (31 * i) ∧ 0 ≤ s 11 i ∧ s 11 i < 2147483648)
def OkB (s : XM) : Prop := ∀ i : Nat, (i : Int) < s 0 9 → (0 ≤ s 9 i ∧ s 9 i < s 0 0) ∧ -1 ≤ s 10 i ∧ s 10 i ≤ 5
def OkX (s : XM) : Prop := ∀ i : Nat, (i : Int) < s 0 6 → 0 ≤ s 8 i ∧ s 8 i ≤ 255
def Ok (s : XM) : Prop := OkN s ∧ OkT s ∧ SnOk s 5 0 ∧ OkP s ∧ OkI s ∧ OkB s ∧ OkX s
def Inv (x : XM) : Prop := ∃ s, CF s x ∧ RF s x ∧ Ok s
/-- the class has done its part, the reference not yet -/
theorem rS_cong {x y : XM} (h : ∀ k, 83 ≤ k → y k = x k) : rS y = rS x := by
  funext k j
  unfold rS
  rw [h 83 (by decide), h 84 (by decide), h 85 (by decide), h 86 (by decide), h 87 (by decide), h 88 (by decide), h 93 (by decide), h 94 (by decide), h 95 (by decide), h 96 (by decide), h 97 (by decide), h 101 (by decide), h 102 (by decide)]
theorem cS_cong {x y : XM} (h : ∀ k, k < 83 → y k = x k) : cS y = cS x := by
  have ht : ∀ c, tid c + 2 < 83 := fun c => by unfold tid; split <;> decide
  have h3 : y 3 = x 3 := h 3 (by decide)
  have hs : ∀ kc j, kc + 2 < 83 → snap y kc j = snap x kc j := by
    intro kc j hk
    unfold snap
    rw [h (kc + 1) (by omega), h kc (by omega), h (kc + 2) hk]
  funext k j
  unfold cS
  rw [h3, h 1 (by decide), h 0 (by decide), h 10 (by decide), h 60 (by decide), h 63 (by decide), h 75 (by decide), h 79 (by decide), h 2 (by decide), h 61 (by decide), h 62 (by decide), h _ (show tid (x 3 1) + 1 < 83 by have := ht (x 3 1); omega), h _ (ht (x 3 1))]
  have hr : ∀ i, ringc y i = ringc x i := fun i => by unfold ringc; rw [h 10 (by decide)]
  have hr2 : ∀ i, ringc x i + 2 < 83 := fun i => by unfold ringc; omega
  match k with
  | 0 | 1 | 2 | 3 | 4 | 8 | 9 | 10 => rfl
  | 5 =>
    show (if j < 31 then msk (x (tid (x 3 1) + 1) 1) (x (tid (x 3 1) + 1) 2) j (snap y 4 j) else 0) = (if j < 31 then msk (x (tid (x 3 1) + 1) 1) (x (tid (x 3 1) + 1) 2) j (snap x 4 j) else 0)
    rw [hs 4 j (by decide)]
  | 6 =>
    show (if (j : Int) < 31 * x 10 2 then msk (x (tid (x 3 1) + 1) 1) (x (tid (x 3 1) + 1) 2) (j % 31) (snap y (ringc y (j / 31)) (j % 31)) else 0) = (if (j : Int) < 31 * x 10 2 then msk (x (tid (x 3 1) + 1) 1) (x (tid (x 3 1) + 1) 2) (j % 31) (snap x (ringc x (j / 31)) (j % 31)) else 0)
    rw [hr, hs _ _ (hr2 _)]
  | 7 =>
    show (if j < 62 ∧ y (75 + 4 * (j / 31)) 2 = 1 then msk (x (tid (x 3 1) + 1) 1) (x (tid (x 3 1) + 1) 2) (j % 31) (snap y (76 + 4 * (j / 31)) (j % 31)) else 0) = (if j < 62 ∧ x (75 + 4 * (j / 31)) 2 = 1 then msk (x (tid (x 3 1) + 1) 1) (x (tid (x 3 1) + 1) 2) (j % 31) (snap x (76 + 4 * (j / 31)) (j % 31)) else 0)
    by_cases c : j < 62
    · rw [h (75 + 4 * (j / 31)) (by omega), hs _ _ (by omega)]
    · rw [if_neg (fun q => c q.1), if_neg (fun q => c q.1)]
  | 11 =>
    show (if j < 2 ∧ y (75 + 4 * j) 2 = 1 then y (75 + 4 * j) 1 else 0) = (if j < 2 ∧ x (75 + 4 * j) 2 = 1 then x (75 + 4 * j) 1 else 0)
    by_cases c : j < 2
    · rw [h (75 + 4 * j) (by omega)]
    · rw [if_neg (fun q => c q.1), if_neg (fun q => c q.1)]
  | k + 12 => rfl
theorem CI_cong {x y : XM} (h : ∀ k, k < 83 → y k = x k) (hc : CI x) : CI y := by
  obtain ⟨h1, h2, h3, h4⟩ := hc
  have hl : ∀ k, k < 103 → (lay k).1 = 2 → k + 2 < 83 := by decide +kernel
  refine ⟨by rw [h 3 (by decide), h 0 (by decide)]; exact h1, fun kc hk => ?_, by rw [h 10 (by decide)]; exact h3, by rw [h 10 (by decide)]; exact h4⟩
  have := hl kc (lt_lay hk (by decide)) hk
  unfold CK
  rw [h (kc + 1) (by omega), h kc (by omega)]
  exact h2 kc hk
theorem MI_cong {x y : XM} (h : ∀ k, 83 ≤ k → y k = x k) (hc : MI x) : MI y := by
  intro j
  rw [h 84 (by decide)]
  exact hc j
theorem CF.keep {s x y : XM} (h : CF s x) (e : ∀ k, k < 83 → y k = x k) : CF s y := ⟨(cS_cong e).trans h.1, CI_cong e h.2⟩
theorem RF.keep {s x y : XM} (h : RF s x) (e : ∀ k, 83 ≤ k → y k = x k) : RF s y := ⟨(rS_cong e).trans h.1, MI_cong e h.2⟩
/-! ===== what is asked of s ===== -/
def nB (s : XM) : Nat := (s 0 0).toNat
def nR (s : XM) : Nat := (s 0 1).toNat
def nC (s : XM) : Nat := (s 0 2).toNat
def nN (s : XM) : Nat := (s 0 3).toNat
def sMk (s : XM) (b m : Nat) : Int := if m = 3 then s 5 (12 + b) else s 1 (4 * b + m)
def sHo (s : XM) (b : Nat) : Int := if 0 ≤ (sMk s b 0 + 1) * sMk s b 1 - 5 * s 5 (12 + b) then (sMk s b 0 + 1) * sMk s b 1 - 5 * s 5 (12 + b) else 0
def sBy (o v m : Int) : Bool := if o = 0 then decide (m = v) else if o = 1 then decide (v ≤ m) else decide (m ≤ v)
def sPR (s : XM) (r b : Nat) : Bool := sBy (s 2 (4 * r + 1)) (s 2 (4 * r + 2)) (sMk s b (s 2 (4 * r)).toNat)
def fstR (s : XM) (b : Nat) : Nat → Nat → Int
  | 0, _ => -1
  | n + 1, p => if sPR s (s 5 (24 + p)).toNat b then s 5 (24 + p) else fstR s b n (p + 1)
def sRu (s : XM) (b : Nat) : Int := fstR s b (nR s) 0
def sGo (s : XM) (b : Nat) : Int := if sRu s b = -1 then -1 else s 2 (4 * (sRu s b).toNat + 3)
def sHp (s : XM) (b : Nat) : Int := if 1 ≤ s 5 b ∧ s 5 b ≤ 6 then s 5 b - 1 else -1
def sSt (s : XM) (c : Int) : Nat := bts (fun b => decide (s 5 b = c)) (nB s)
def lstI (p : Nat → Bool) : Nat → Int
  | 0 => -1
  | n + 1 => if p n then (n : Int) else lstI p n
def sSw (s : XM) (c : Int) : Int := lstI (fun b => decide (s 5 b = c)) (nB s)
theorem Ok.n {s : XM} (h : Ok s) : s 0 0 = (nB s : Int) ∧ nB s ≤ 12 := by
  have := h.1.1
  unfold nB
  omega
theorem Ok.r {s : XM} (h : Ok s) : s 0 1 = (nR s : Int) ∧ nR s ≤ 6 := by
  have := h.1.2.1
  unfold nR
  omega
theorem Ok.c {s : XM} (h : Ok s) : s 0 2 = (nC s : Int) ∧ nC s ≤ 5 := by
  have := h.1.2.2.1
  unfold nC
  omega
theorem Ok.w {s : XM} (h : Ok s) : s 0 3 = (nN s : Int) ∧ nN s ≤ 5 := by
  have := h.1.2.2.2.1
  unfold nN
  omega
