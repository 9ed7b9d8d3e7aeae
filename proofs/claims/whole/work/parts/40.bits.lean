/-! ===== bits, sets ===== -/
theorem ofI_nat (n : Nat) : Int32.ofInt (n : Int) = nI n := Int32.ofInt_eq_ofNat
theorem zz_and (a b : Nat) : nI a &&& nI b = nI (a &&& b) := by
  apply Int32.toBitVec_inj.1
  show BitVec.ofNat 32 a &&& BitVec.ofNat 32 b = BitVec.ofNat 32 (a &&& b)
  apply BitVec.eq_of_getLsbD_eq
  intro i hi
  simp [hi]
theorem zz_or (a b : Nat) : nI a ||| nI b = nI (a ||| b) := by
  apply Int32.toBitVec_inj.1
  show BitVec.ofNat 32 a ||| BitVec.ofNat 32 b = BitVec.ofNat 32 (a ||| b)
  apply BitVec.eq_of_getLsbD_eq
  intro i hi
  simp [hi]
theorem zz_xor (a b : Nat) : nI a ^^^ nI b = nI (a ^^^ b) := by
  apply Int32.toBitVec_inj.1
  show BitVec.ofNat 32 a ^^^ BitVec.ofNat 32 b = BitVec.ofNat 32 (a ^^^ b)
  apply BitVec.eq_of_getLsbD_eq
  intro i hi
  simp [hi]
/-- a without what is in b -/
def ndiff (a b : Nat) : Nat := a ^^^ (a &&& b)
theorem ndiff_bit (a b i : Nat) : (ndiff a b).testBit i = (a.testBit i && !b.testBit i) := by
  unfold ndiff
  rw [Nat.testBit_xor, Nat.testBit_and]
  cases a.testBit i <;> cases b.testBit i <;> rfl
theorem ndiff_lt {a b k : Nat} (h : a < 2 ^ k) : ndiff a b < 2 ^ k := by
  unfold ndiff
  exact Nat.xor_lt_two_pow h (Nat.lt_of_le_of_lt Nat.and_le_left h)
theorem zz_diff (a b : Nat) : nI a &&& (nI b ^^^ Int32.ofInt (-1)) = nI (ndiff a b) := by
  apply Int32.toBitVec_inj.1
  show BitVec.ofNat 32 a &&& (BitVec.ofNat 32 b ^^^ BitVec.ofInt 32 (-1)) = BitVec.ofNat 32 (ndiff a b)
  apply BitVec.eq_of_getLsbD_eq
  intro i hi
  have h1 : (BitVec.ofInt 32 (-1)).getLsbD i = true := by
    have : ∀ i, i < 32 → (BitVec.ofInt 32 (-1)).getLsbD i = true := by decide +kernel
    exact this i hi
  rw [BitVec.getLsbD_and, BitVec.getLsbD_xor, h1, BitVec.getLsbD_ofNat, BitVec.getLsbD_ofNat, BitVec.getLsbD_ofNat, ndiff_bit]
  simp [hi]
theorem jand_n {a b : Nat} (ha : a < 2 ^ 31) : jand (a : Int) (b : Int) = ((a &&& b : Nat) : Int) := by
  unfold jand
  rw [ofI_nat, ofI_nat, zz_and, nI_toInt (Nat.lt_of_le_of_lt Nat.and_le_left ha)]
theorem jor_n {a b : Nat} (ha : a < 2 ^ 31) (hb : b < 2 ^ 31) : jor (a : Int) (b : Int) = ((a ||| b : Nat) : Int) := by
  unfold jor
  rw [ofI_nat, ofI_nat, zz_or, nI_toInt (Nat.or_lt_two_pow ha hb)]
theorem jxor_n {a b : Nat} (ha : a < 2 ^ 31) (hb : b < 2 ^ 31) : jxor (a : Int) (b : Int) = ((a ^^^ b : Nat) : Int) := by
  unfold jxor
  rw [ofI_nat, ofI_nat, zz_xor, nI_toInt (Nat.xor_lt_two_pow ha hb)]
theorem jdiff_n {a b : Nat} (ha : a < 2 ^ 31) : jand (a : Int) (jxor (b : Int) (-1)) = ((ndiff a b : Nat) : Int) := by
  unfold jand jxor
  rw [Int32.ofInt_toInt, ofI_nat, ofI_nat, zz_diff, nI_toInt (ndiff_lt ha)]
theorem jshl_1 : ∀ b : Nat, b < 31 → jshl 1 (b : Int) = ((2 ^ b : Nat) : Int) := by decide +kernel
theorem zz_sl : ∀ n, n < 32 → ((nI n &&& 31).toBitVec.smod 32).toNat = n := by decide +kernel
theorem jshr_n {v k : Nat} (hv : v < 2 ^ 31) (hk : k < 32) : jshr (v : Int) (k : Int) = ((v / 2 ^ k : Nat) : Int) := by
  unfold jshr
  rw [ofI_nat, ofI_nat, pk_shrN hv _ k (zz_sl k hk), nI_toInt (Nat.lt_of_le_of_lt (Nat.div_le_self _ _) hv)]
theorem jbit {v k : Nat} (hv : v < 2 ^ 31) (hk : k < 32) : jand (jshr (v : Int) (k : Int)) 1 = if v.testBit k then 1 else 0 := by
  rw [jshr_n hv hk]
  have h := jand_n (a := v / 2 ^ k) (b := 1) (Nat.lt_of_le_of_lt (Nat.div_le_self _ _) hv)
  rw [show ((1 : Nat) : Int) = 1 from rfl] at h
  rw [h, Nat.and_one_is_mod]
  have e : v.testBit k = decide (v / 2 ^ k % 2 = 1) := by rw [Nat.testBit_eq_decide_div_mod_eq]
  rw [e]
  by_cases h2 : v / 2 ^ k % 2 = 1
  · simp [h2]
  · have : v / 2 ^ k % 2 = 0 := by omega
    simp [this]
/-- the set of those below n with p -/
def bts (p : Nat → Bool) : Nat → Nat
  | 0 => 0
  | n + 1 => bts p n + (if p n then 2 ^ n else 0)
theorem bts_lt (p : Nat → Bool) : ∀ n, bts p n < 2 ^ n
  | 0 => by simp [bts]
  | n + 1 => by
    have h := bts_lt p n
    have e : 2 ^ (n + 1) = 2 ^ n + 2 ^ n := by rw [Nat.pow_succ]; omega
    unfold bts
    split <;> omega
theorem bts_or (p : Nat → Bool) (n : Nat) : bts p n ||| 2 ^ n = bts p n + 2 ^ n := by
  have h := Nat.two_pow_add_eq_or_of_lt (bts_lt p n) 1
  rw [Nat.mul_one] at h
  rw [Nat.or_comm, ← h, Nat.add_comm]
theorem bts_bit (p : Nat → Bool) : ∀ (n i : Nat), (bts p n).testBit i = (decide (i < n) && p i)
  | 0, i => by simp [bts]
  | n + 1, i => by
    have ih := bts_bit p n i
    unfold bts
    by_cases hp : p n = true
    · rw [if_pos hp, ← bts_or, Nat.testBit_or, ih, Nat.testBit_two_pow]
      by_cases h1 : i < n
      · have : ¬ n = i := by omega
        simp [h1, this, show i < n + 1 by omega]
      · by_cases h2 : n = i
        · subst h2; simp [hp]
        · simp [h1, h2, show ¬ i < n + 1 by omega]
    · rw [if_neg hp, Nat.add_zero, ih]
      by_cases h1 : i < n
      · simp [h1, show i < n + 1 by omega]
      · by_cases h2 : i = n
        · subst h2
          have : p i = false := by cases h : p i <;> simp_all
          simp [this]
        · simp [h1, show ¬ i < n + 1 by omega]
theorem bts_cong {p r : Nat → Bool} : ∀ {n : Nat}, (∀ i, i < n → p i = r i) → bts p n = bts r n
  | 0, _ => rfl
  | n + 1, h => by
    unfold bts
    rw [bts_cong (fun i hi => h i (by omega)), h n (by omega)]
theorem pow12 {b : Nat} (h : b ≤ 12) : 2 ^ b ≤ 4096 := Nat.pow_le_pow_right (by decide) h
/-- a step of gathering a set -/
theorem bts_add {p : Nat → Bool} {b : Nat} (hb : b < 31) (hp : p b = true) : jor ((bts p b : Nat) : Int) (jshl 1 (b : Int)) = ((bts p (b + 1) : Nat) : Int) := by
  have h1 := bts_lt p b
  have h2 : 2 ^ b < 2 ^ 31 := Nat.pow_lt_pow_right (by decide) hb
  rw [jshl_1 b hb, jor_n (by omega) h2, bts_or]
  show _ = ((bts p b + (if p b then 2 ^ b else 0) : Nat) : Int)
  rw [if_pos hp]
theorem bts_no {p : Nat → Bool} {b : Nat} (hp : p b = false) : bts p (b + 1) = bts p b := by
  show bts p b + (if p b then 2 ^ b else 0) = _
  rw [hp]; simp
theorem jor_0 {a : Nat} (ha : a < 2 ^ 31) : jor (a : Int) 0 = a := by
  have h := jor_n ha (b := 0) (by decide)
  rw [Nat.or_zero] at h
  exact h
theorem rgN {n : Nat} (h : n < 2 ^ 31) : Rg (n : Int) := ⟨by omega, by omega⟩
/-- how many of the bits below n -/
def pcn (S : Nat) : Nat → Nat
  | 0 => 0
  | n + 1 => pcn S n + (if S.testBit n then 1 else 0)
theorem pcn_le (S : Nat) : ∀ n, pcn S n ≤ n
  | 0 => Nat.le_refl _
  | n + 1 => by
    have := pcn_le S n
    unfold pcn
    split <;> omega
/-- the least bit -/
def ctz (S : Nat) : Nat → Nat
  | 0 => 0
  | n + 1 => if S.testBit 0 then 0 else 1 + ctz (S / 2) n
theorem s_has {x : XM} {S b : Nat} {q : Int → Prop} (hS : S < 2 ^ 31) (hb : b < 32) (h : q (if S.testBit b then 1 else 0)) : M_X11_has x (S : Int) (b : Int) q := by
  unfold M_X11_has
  rw [jbit hS hb]
  by_cases hp : S.testBit b = true
  · rw [if_pos hp] at h ⊢
    exact ⟨fun c => absurd rfl c, fun _ => h⟩
  · rw [if_neg hp] at h ⊢
    exact ⟨fun _ => h, fun c => absurd c (by decide)⟩
theorem s_has10 {x : XM} {S b : Nat} {q : Int → Prop} (hS : S < 2 ^ 31) (hb : b < 32) (h : q (if S.testBit b then 1 else 0)) : M_X10_has x (S : Int) (b : Int) q := by
  unfold M_X10_has
  rw [jbit hS hb]
  by_cases hp : S.testBit b = true
  · rw [if_pos hp] at h ⊢
    exact ⟨fun c => absurd rfl c, fun _ => h⟩
  · rw [if_neg hp] at h ⊢
    exact ⟨fun _ => h, fun c => absurd c (by decide)⟩
def nz62 (v0 v1 : Int) : Int := if v0 ≤ 4 then v1 + jushr v0 1 else (v1 + 2) + jushr (jushr v0 2) 1
def nz49 (v0 v1 : Int) : Int := if v0 ≤ 16 then nz62 v0 v1 else nz62 (jushr v0 4) (v1 + 4)
def nz34 (v0 v1 : Int) : Int := if v0 ≤ 256 then nz49 v0 v1 else nz49 (jushr v0 8) (v1 + 8)
theorem s_62 {x : XM} {v0 v1 : Int} {q : Int → Prop} (hr : Rg (nz62 v0 v1)) (h : q (nz62 v0 v1)) : M_J6_numberOfTrailingZeros_0f7a4_62 q x v0 v1 := by
  unfold M_J6_numberOfTrailingZeros_0f7a4_62
  unfold nz62 at hr h
  by_cases c : v0 ≤ 4
  · rw [if_pos c] at hr h
    exact ⟨fun _ => ⟨hr, h⟩, fun n => absurd c n⟩
  · rw [if_neg c] at hr h
    exact ⟨fun n => absurd n c, fun _ => ⟨hr, h⟩⟩
theorem s_49 {x : XM} {v0 v1 : Int} {q : Int → Prop} (h4 : Rg (v1 + 4)) (hr : Rg (nz49 v0 v1)) (h : q (nz49 v0 v1)) : M_J6_numberOfTrailingZeros_0f7a4_49 q x v0 v1 := by
  unfold M_J6_numberOfTrailingZeros_0f7a4_49
  unfold nz49 at hr h
  by_cases c : v0 ≤ 16
  · rw [if_pos c] at hr h
    exact ⟨fun _ => s_62 hr h, fun n => absurd c n⟩
  · rw [if_neg c] at hr h
    exact ⟨fun n => absurd n c, fun _ => ⟨h4, s_62 hr h⟩⟩
theorem s_34 {x : XM} {v0 v1 : Int} {q : Int → Prop} (h4 : Rg (v1 + 4)) (h8 : Rg (v1 + 8)) (h84 : Rg (v1 + 8 + 4)) (hr : Rg (nz34 v0 v1)) (h : q (nz34 v0 v1)) : M_J6_numberOfTrailingZeros_0f7a4_34 q x v0 v1 := by
  unfold M_J6_numberOfTrailingZeros_0f7a4_34
  unfold nz34 at hr h
  by_cases c : v0 ≤ 256
  · rw [if_pos c] at hr h
    exact ⟨fun _ => s_49 h4 hr h, fun n => absurd c n⟩
  · rw [if_neg c] at hr h
    exact ⟨fun n => absurd n c, fun _ => ⟨h8, s_49 h84 hr h⟩⟩
theorem all64 {P : Nat → Prop} (h : ∀ a, a < 64 → ∀ b, b < 64 → P (64 * a + b)) : ∀ S, S < 4096 → P S := fun S hS => by
  have := h (S / 64) (by omega) (S % 64) (by omega)
  rwa [show 64 * (S / 64) + S % 64 = S by omega] at this
theorem ctz_w : ∀ S : Nat, S < 4096 → 0 < S → (jand (jxor (S : Int) (-1)) ((S : Int) - 1) = ((2 ^ ctz S 12 - 1 : Nat) : Int) ∧ ctz S 12 < 12) := all64 (by decide +kernel)
theorem ctz_v : ∀ c : Nat, c < 12 → 0 < c → nz34 ((2 ^ c - 1 : Nat) : Int) 1 = (c : Int) := by decide +kernel
theorem s_ntz {x : XM} {S : Nat} {q : Int → Prop} (h0 : 0 < S) (h1 : S < 4096) (h : q ((ctz S 12 : Nat) : Int)) : M_J6_numberOfTrailingZeros_0f7a4 x (S : Int) q := by
  obtain ⟨hw, hc⟩ := ctz_w S h1 h0
  unfold M_J6_numberOfTrailingZeros_0f7a4
  rw [hw]
  generalize ctz S 12 = c at h hc
  have hp : 2 ^ c ≤ 2 ^ 11 := Nat.pow_le_pow_right (by decide) (by omega)
  have hp0 : 0 < 2 ^ c := Nat.pow_pos (by decide)
  rcases Nat.eq_zero_or_pos c with rfl | hc0
  · exact ⟨fun n => absurd n (by decide), fun _ => h⟩
  · have hp2 : 2 ≤ 2 ^ c := by
      have : 2 ^ 1 ≤ 2 ^ c := Nat.pow_le_pow_right (by decide) hc0
      omega
    refine ⟨fun _ => ⟨fun _ => ?_, fun n => absurd (show ((2 ^ c - 1 : Nat) : Int) ≤ 65536 by omega) n⟩, fun n => absurd (show (0 : Int) < ((2 ^ c - 1 : Nat) : Int) by omega) n⟩
    have e := ctz_v c hc hc0
    exact s_34 (rgL rfl) (rgL rfl) (rgL rfl) (by rw [e]; exact rgN (by omega)) (by rw [e]; exact h)
def bcF (v0 : Int) : Int := jand (((jand (((jand (v0 - (jand (jushr v0 1) 1431655765)) 858993459) + (jand (jushr (v0 - (jand (jushr v0 1) 1431655765)) 2) 858993459)) + (jushr ((jand (v0 - (jand (jushr v0 1) 1431655765)) 858993459) + (jand (jushr (v0 - (jand (jushr v0 1) 1431655765)) 2) 858993459)) 4)) 252645135) + (jushr (jand (((jand (v0 - (jand (jushr v0 1) 1431655765)) 858993459) + (jand (jushr (v0 - (jand (jushr v0 1) 1431655765)) 2) 858993459)) + (jushr ((jand (v0 - (jand (jushr v0 1) 1431655765)) 858993459) + (jand (jushr (v0 - (jand (jushr v0 1) 1431655765)) 2) 858993459)) 4)) 252645135) 8)) + (jushr ((jand (((jand (v0 - (jand (jushr v0 1) 1431655765)) 858993459) + (jand (jushr (v0 - (jand (jushr v0 1) 1431655765)) 2) 858993459)) + (jushr ((jand (v0 - (jand (jushr v0 1) 1431655765)) 858993459) + (jand (jushr (v0 - (jand (jushr v0 1) 1431655765)) 2) 858993459)) 4)) 252645135) + (jushr (jand (((jand (v0 - (jand (jushr v0 1) 1431655765)) 858993459) + (jand (jushr (v0 - (jand (jushr v0 1) 1431655765)) 2) 858993459)) + (jushr ((jand (v0 - (jand (jushr v0 1) 1431655765)) 858993459) + (jand (jushr (v0 - (jand (jushr v0 1) 1431655765)) 2) 858993459)) 4)) 252645135) 8)) 16)) 63
theorem bcF_ok : ∀ S : Nat, S < 4096 → bcF (S : Int) = ((pcn S 12 : Nat) : Int) := all64 (by decide +kernel)
theorem s_bitCount {x : XM} {S : Nat} {q : Int → Prop} (h1 : S < 4096) (h : q ((pcn S 12 : Nat) : Int)) : M_J6_bitCount_0f7a4 x (S : Int) q := by
  show q (bcF (S : Int))
  rw [bcF_ok S h1]
  exact h
theorem s_max {x : XM} {a b : Int} {q : Int → Prop} (h : q (if a < b then b else a)) : M_J9_max_7cf53 x a b q := by
  unfold M_J9_max_7cf53
  by_cases c : a < b
  · rw [if_pos c] at h; exact ⟨fun _ => h, fun n => absurd c n⟩
  · rw [if_neg c] at h; exact ⟨fun n => absurd n c, fun _ => h⟩
theorem s_min {x : XM} {a b : Int} {q : Int → Prop} (h : q (if b < a then b else a)) : M_J9_min_7cf53 x a b q := by
  unfold M_J9_min_7cf53
  by_cases c : b < a
  · rw [if_pos c] at h; exact ⟨fun _ => h, fun n => absurd c n⟩
  · rw [if_neg c] at h; exact ⟨fun n => absurd n c, fun _ => h⟩
