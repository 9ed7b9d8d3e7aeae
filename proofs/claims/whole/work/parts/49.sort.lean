/-! ===== sort, drift ===== -/
theorem Fr.tr {x y z : XM} (h1 : Fr x y) (h2 : Fr y z) : Fr x z := fun k hk => (h2 k hk).trans (h1 k hk)
theorem Gr.tr {x y z : XM} (h1 : Gr x y) (h2 : Gr y z) : Gr x z := fun k hk => (h2 k hk).trans (h1 k hk)
theorem Fr.rf {x : XM} : Fr x x := fun _ _ => rfl
theorem Gr.rf {x : XM} : Gr x x := fun _ _ => rfl
theorem Ok.setS {s : XM} {z : Int} (k : Ok s) (hz : 0 ≤ z ∧ z ≤ 999999) : Ok (uX s 5 30 z) := by
  refine k.now (fun k j hk => uX_ne fun e => hk e.1) ?_
  obtain ⟨a1, a2, a3, a4, a5, a6, a7, a8, a9⟩ := k.sn
  have hr := k.r
  simp only [Nat.zero_add] at a1 a2 a3 a4 a5 a6 a7 a8
  refine ⟨?_, ?_, ?_, ?_, ?_, ?_, ?_, ?_, ?_⟩
  all_goals simp only [Nat.zero_add]
  · intro c hc
    rw [uX_j (by omega)]
    exact a1 c hc
  · intro c hc h0
    rw [uX_ne (by omega)] at h0
    rw [uX_j (by omega)]
    exact a2 c hc h0
  · intro c d hc hd
    rw [uX_j (by omega), uX_j (by omega)]
    exact a3 c d hc hd
  · intro c hc
    rw [uX_j (by omega)]
    exact a4 c hc
  · intro c hc h0
    rw [uX_ne (by omega)] at h0
    rw [uX_j (by omega)]
    exact a5 c hc h0
  · intro p hp
    rw [uX_j (by omega)]
    exact a6 p hp
  · intro p hp
    rw [uX_k (a := 0) (by decide)] at hp ⊢
    rw [uX_j (by omega)]
    exact a7 p hp
  · intro p p' hp hp' e
    rw [uX_k (a := 0) (by decide)] at hp hp'
    rw [uX_j (by omega), uX_j (by omega)] at e
    exact a8 p p' hp hp' e
  · rw [uX_eq]
    exact hz
def gl (s : XM) (b : Nat) : Int := if sGo s b = -1 then 7 else 1 + sGo s b
def sO (s : XM) (b : Nat) : XM := uX (uX s 5 b (gl s b)) 5 30 (if 999999 ≤ s 5 30 then 999999 else s 5 30 + 1)
theorem gl_b {s : XM} (k : Ok s) (b : Nat) : 0 ≤ gl s b ∧ gl s b ≤ 7 := by
  unfold gl
  rcases sGo_ge k b with e | ⟨⟨g, e, hg⟩, _⟩
  · rw [if_pos e.1]; omega
  · rw [if_neg (by omega), e]; omega
theorem Ok.sl {s : XM} (k : Ok s) : 0 ≤ s 5 30 ∧ s 5 30 ≤ 999999 := k.sn.2.2.2.2.2.2.2.2
theorem Ok.so {s : XM} {b : Nat} (k : Ok s) (hb : b < nB s) : Ok (sO s b) := by
  have hg := gl_b k b
  have hs := k.sl
  refine (k.set hb ⟨hg.1, by omega⟩ (by omega)).setS ?_
  split <;> omega
theorem nB_sO {s : XM} {b : Nat} : nB (sO s b) = nB s := by unfold sO; rw [nB_u5, nB_u5]
theorem c_sortAlone {s x : XM} {b : Nat} {q : XM → Prop} (h : CF s x) (k : Ok s) (hb : b < nB s) (hq : ∀ y : XM, CF (sO s b) y → (∀ k, k ≠ 4 → k ≠ 5 → y k = x k) → q y) : M_X0_sortAlone x (b : Int) q := by
  have hn := k.n
  have hs := k.sl
  refine c_goal h k hb ?_
  have F : ∀ z : Int, (0 ≤ z ∧ z ≤ 12) → enc z = gl s b → M_X0_sortAlone_25 q x z (b : Int) := by
    intro z hz e
    refine ⟨⟨by omega, by omega⟩, fun y ey => ?_⟩
    rw [Int.toNat_natCast] at ey
    have hy : CF (uX s 5 b (gl s b)) y := by
      rw [ey, ← e]
      exact h.set (by omega) hz
    have e30 : y 4 3 = s 5 30 := by rw [ey, uX_k (by decide), h.sl]
    rw [e30]
    refine ⟨⟨by omega, by omega⟩, s_min fun w ew => ?_⟩
    refine hq w ?_ fun k h1 h2 => by rw [ew, uX_k h1, ey, uX_k h2]
    have ev : (if 999999 < s 5 30 + 1 then 999999 else s 5 30 + 1) = if 999999 ≤ s 5 30 then 999999 else s 5 30 + 1 := by
      by_cases c : 999999 ≤ s 5 30
      · rw [if_pos c, if_pos (by omega)]
      · rw [if_neg c, if_neg (by omega)]
    rw [ew, ev]
    exact hy.setS
  have eg : gl s b = if sGo s b = -1 then 7 else 1 + sGo s b := rfl
  rcases sGo_ge k b with e | ⟨⟨g, e, hg⟩, _⟩
  · rw [if_pos e.1] at eg
    exact jF e.1 (F 7 (by omega) (by rw [eg]; rfl))
  · rw [if_neg (by omega), e] at eg
    rw [e]
    exact jT (by omega) (F g (by omega) (by rw [eg, enc_h (by omega)]))
theorem r_sortOne {s x : XM} {b : Nat} {q : XM → Prop} (h : RF s x) (k : Ok s) (hb : b < nB s) (hq : ∀ y : XM, RF (sO s b) y → (∀ k, k ≠ 93 → y k = x k) → q y) : M_X11_sortOne x (b : Int) q := by
  have hn := k.n
  have hs := k.sl
  refine r_goes h k hb ?_
  have F : ∀ z : Int, z = gl s b → M_X11_sortOne_24 q x z (b : Int) := by
    intro z e
    refine ⟨⟨by omega, by omega⟩, fun y ey => ?_⟩
    rw [Int.toNat_natCast] at ey
    have hy : RF (uX s 5 b (gl s b)) y := by
      rw [ey, ← e]
      exact h.set (by omega)
    have e30 : y 93 30 = s 5 30 := by rw [ey, uX_j (by omega), h.nw (by omega)]
    rw [e30]
    refine ⟨fun c w ew => ?_, fun c => ⟨⟨by omega, by omega⟩, fun w ew => ?_⟩⟩
    · refine hq w ?_ fun k h1 => by rw [ew, uX_k h1, ey, uX_k h1]
      unfold sO
      rw [ew, if_pos c]
      exact hy.set (by omega)
    · refine hq w ?_ fun k h1 => by rw [ew, uX_k h1, ey, uX_k h1]
      unfold sO
      rw [ew, if_neg c]
      exact hy.set (by omega)
  have eg : gl s b = if sGo s b = -1 then 7 else 1 + sGo s b := rfl
  rcases sGo_ge k b with e | ⟨⟨g, e, hg⟩, _⟩
  · rw [if_pos e.1] at eg
    exact jF e.1 (F 7 eg.symm)
  · rw [if_neg (by omega)] at eg
    exact jT (by omega) ⟨⟨by omega, by omega⟩, F _ eg.symm⟩
def srt (S : Nat) (t : XM) : Nat → XM
  | 0 => t
  | n + 1 => if S.testBit n then sO (srt S t n) n else srt S t n
theorem nB_srt {S : Nat} {t : XM} : ∀ n, nB (srt S t n) = nB t
  | 0 => rfl
  | n + 1 => by
    unfold srt
    split
    · rw [nB_sO, nB_srt n]
    · exact nB_srt n
theorem Ok.srt {S : Nat} {t : XM} (k : Ok t) (hS : S < 2 ^ nB t) : ∀ n, Ok (srt S t n)
  | 0 => k
  | n + 1 => by
    have ih := Ok.srt k hS n
    show Ok (if S.testBit n then sO (Jvm.Pilot.CButtonTinLaw_law_r5581_1f1b6c.srt S t n) n else Jvm.Pilot.CButtonTinLaw_law_r5581_1f1b6c.srt S t n)
    split
    · rename_i e
      exact ih.so (by rw [nB_srt]; exact bit_lt hS e)
    · exact ih
theorem srt_ge {S : Nat} {t : XM} (hS : S < 2 ^ nB t) : ∀ n, nB t ≤ n → srt S t n = srt S t (nB t)
  | 0, h => by rw [show nB t = 0 by omega]
  | n + 1, h => by
    by_cases c : nB t = n + 1
    · rw [c]
    · have ih := srt_ge hS n (by omega)
      rw [← ih]
      show (if S.testBit n then sO (srt S t n) n else srt S t n) = srt S t n
      rw [if_neg]
      intro e
      have := bit_lt hS e
      omega
theorem c_sort_33 {t x : XM} {q : Int → XM → Prop} {S : Nat} (k : Ok t) (hS : S < 2 ^ nB t) (hq : ∀ y : XM, CF (srt S t (nB t)) y → Fr x y → q ((pcn S 12 : Nat) : Int) y) (n : Nat) : ∀ (b : Nat) (y : XM), b ≤ 12 → 12 < b + n → CF (srt S t b) y → Fr x y → M_X10_sort_33 q n y (S : Int) (b : Int) := by
  have hn := k.n
  have h12 := pow12 hn.2
  induction n with
  | zero => intro b y h1 h2; omega
  | succ n ih =>
    intro b y h1 h2 hy fy
    unfold M_X10_sort_33
    refine ⟨fun c => s_bitCount (by omega) ?_, fun c => s_has10 (by omega) (by omega) ?_⟩
    · refine hq y ?_ fy
      rw [← srt_ge hS b (by omega)]
      exact hy
    · by_cases d : S.testBit b = true
      · rw [if_pos d]
        refine iF (by decide) (c_sortAlone hy (k.srt hS b) (by rw [nB_srt]; exact bit_lt hS d) fun z hz fz => ⟨rg1 (by omega), ?_⟩)
        refine ih (b + 1) z (by omega) (by omega) ?_ (fy.tr fun k hk => fz k (by omega) (by omega))
        unfold srt
        rw [if_pos d]
        exact hz
      · rw [if_neg d]
        refine iT rfl ⟨rg1 (by omega), ih (b + 1) y (by omega) (by omega) ?_ fy⟩
        unfold srt
        rw [if_neg d]
        exact hy
theorem s_bitsOf_4 {x : XM} {q : Int → Prop} {S : Nat} (hS : S < 2 ^ 31) (hq : q ((pcn S 12 : Nat) : Int)) (n : Nat) : ∀ b, b ≤ 12 → 12 < b + n → M_X11_bitsOf_4 q x n (S : Int) ((pcn S b : Nat) : Int) (b : Int) := by
  induction n with
  | zero => intro b h1 h2; omega
  | succ n ih =>
    intro b h1 h2
    unfold M_X11_bitsOf_4
    refine ⟨fun c => by rw [show b = 12 by omega]; exact hq, fun c => ?_⟩
    have hp := pcn_le S b
    have ih := ih (b + 1) (by omega) (by omega)
    unfold pcn at ih
    rw [jbit hS (by omega)]
    by_cases d : S.testBit b = true
    · rw [if_pos d] at ih ⊢
      exact ⟨rg1 (by omega), rg1 (by omega), ih⟩
    · rw [if_neg d] at ih ⊢
      exact ⟨⟨by omega, by omega⟩, rg1 (by omega), ih⟩
theorem s_bitsOf {x : XM} {q : Int → Prop} {S : Nat} (hS : S < 2 ^ 31) (hq : q ((pcn S 12 : Nat) : Int)) : M_X11_bitsOf x (S : Int) q := ⟨13, s_bitsOf_4 hS hq 13 0 (by omega) (by omega)⟩
theorem r_sort_19 {t x : XM} {q : Int → XM → Prop} {S : Nat} (k : Ok t) (hS : S < 2 ^ nB t) (hq : ∀ y : XM, RF (srt S t (nB t)) y → Gr x y → q ((pcn S 12 : Nat) : Int) y) (n : Nat) : ∀ (b : Nat) (y : XM), b ≤ nB t → nB t < b + n → RF (srt S t b) y → Gr x y → M_X11_sort_19 q n y (S : Int) (b : Int) := by
  have hn := k.n
  have h12 := pow12 hn.2
  induction n with
  | zero => intro b y h1 h2; omega
  | succ n ih =>
    intro b y h1 h2 hy fy
    have kb := k.srt hS b
    have en : y 83 3 = (nB t : Int) := by rw [hy.n, kb.n.1, nB_srt]
    unfold M_X11_sort_19
    rw [en]
    refine ⟨fun c => s_bitsOf (by omega) ?_, fun c => s_has (by omega) (by omega) ?_⟩
    · refine hq y ?_ fy
      rw [show b = nB t by omega] at hy
      exact hy
    · by_cases d : S.testBit b = true
      · rw [if_pos d]
        refine iF (by decide) (r_sortOne hy kb (by rw [nB_srt]; exact bit_lt hS d) fun z hz fz => ⟨rg1 (by omega), ?_⟩)
        refine ih (b + 1) z (by omega) (by omega) ?_ (fy.tr fun k hk => fz k (by omega))
        unfold srt
        rw [if_pos d]
        exact hz
      · rw [if_neg d]
        refine iT rfl ⟨rg1 (by omega), ih (b + 1) y (by omega) (by omega) ?_ fy⟩
        unfold srt
        rw [if_neg d]
        exact hy
def uSor (s : XM) : Int × XM := if sSt s 0 = 0 then (-1000000003, s) else (((pcn (sSt s 0) 12 : Nat) : Int), srt (sSt s 0) (kn s) (nB s))
theorem C_sort {s x : XM} {q : Int → XM → Prop} (h : CF s x) (k : Ok s) (hq : ∀ y : XM, CF (uSor s).2 y → Ok (uSor s).2 → Fr x y → q (uSor s).1 y) : M_X10_sort x q := by
  unfold uSor at hq
  refine c_at h k (by decide) ?_
  rw [enc_6]
  refine ⟨fun c => C_remember h k fun y hy fy => ⟨13, ?_⟩, fun c => by rw [if_pos (by omega)] at hq; exact hq x h k Fr.rf⟩
  rw [if_neg (by omega)] at hq
  have hS : sSt s 0 < 2 ^ nB (kn s) := by rw [nB_kn]; exact sSt_lt _
  refine c_sort_33 (x := x) (t := kn s) k.knw hS (fun z hz fz => ?_) 13 0 y (by omega) (by omega) hy fun k hk => fy k (by omega)
  rw [nB_kn] at hz
  refine hq z hz ?_ fz
  exact k.knw.srt hS _
theorem R_sort {s x : XM} {q : Int → XM → Prop} (h : RF s x) (k : Ok s) (hq : ∀ y : XM, RF (uSor s).2 y → Gr x y → q (uSor s).1 y) : M_X11_sort x q := by
  unfold uSor at hq
  refine r_setIn h k ?_
  refine ⟨fun c => R_know h k fun y hy fy _ => ⟨nB s + 1, ?_⟩, fun c => by rw [if_pos (by omega)] at hq; exact hq x h Gr.rf⟩
  rw [if_neg (by omega)] at hq
  have hS : sSt s 0 < 2 ^ nB (kn s) := by rw [nB_kn]; exact sSt_lt _
  refine r_sort_19 (x := x) (t := kn s) k.knw hS (fun z hz fz => ?_) (nB s + 1) 0 y (by omega) (by rw [nB_kn]; omega) hy fun k hk => fy k (by omega) (by omega)
  rw [nB_kn] at hz
  exact hq z hz fz
/-- the next draw -/
def nx (z : Int) : Int := jl2i ((((ji2l z) * 1103515245) + 12345) - (((ji2l z) * 1103515245) + 12345) / 2147483648 * 2147483648)
theorem nx_b {z : Int} (h : 0 ≤ z ∧ z < 2147483648) : 0 ≤ nx z ∧ nx z < 2147483648 := by
  have e0 : (ji2l z).toInt = z := by
    unfold ji2l
    rw [Int32.toInt_toInt64, Int32.toInt_ofInt_of_le (by omega) (by omega)]
  have b1 : (z * 1103515245).bmod (2 ^ 64) = z * 1103515245 := Int.bmod_eq_of_le (by omega) (by omega)
  have b2 : (z * 1103515245 + 12345).bmod (2 ^ 64) = z * 1103515245 + 12345 := Int.bmod_eq_of_le (by omega) (by omega)
  have b3 : ((z * 1103515245 + 12345) / 2147483648 * 2147483648).bmod (2 ^ 64) = (z * 1103515245 + 12345) / 2147483648 * 2147483648 := Int.bmod_eq_of_le (by omega) (by omega)
  have e1 : (ji2l z * 1103515245 + 12345).toInt = z * 1103515245 + 12345 := by
    rw [Int64.toInt_add, Int64.toInt_mul, e0]
    show ((z * 1103515245).bmod (2 ^ 64) + 12345).bmod (2 ^ 64) = _
    rw [b1, b2]
  unfold nx
  generalize ji2l z * 1103515245 + 12345 = A at e1
  have e2 : (A / 2147483648).toInt = (z * 1103515245 + 12345) / 2147483648 := by
    rw [Int64.toInt_div, e1]
    show (Int.tdiv (z * 1103515245 + 12345) 2147483648).bmod (2 ^ 64) = _
    rw [Int.tdiv_eq_ediv_of_nonneg (by omega), Int.bmod_eq_of_le (by omega) (by omega)]
  have e3 : (A - A / 2147483648 * 2147483648).toInt = (z * 1103515245 + 12345) % 2147483648 := by
    rw [Int64.toInt_sub, Int64.toInt_mul, e1, e2]
    show (z * 1103515245 + 12345 - ((z * 1103515245 + 12345) / 2147483648 * 2147483648).bmod (2 ^ 64)).bmod (2 ^ 64) = _
    rw [b3, Int.bmod_eq_of_le (by omega) (by omega)]
    omega
  have e4 : jl2i (A - A / 2147483648 * 2147483648) = (z * 1103515245 + 12345) % 2147483648 := by
    unfold jl2i
    rw [Int64.toInt_toInt32, e3, Int.bmod_eq_of_le (by omega) (by omega)]
  rw [e4]
  omega
def dr (s : XM) : XM := uX s 0 10 (nx (s 0 10))
def dv (s : XM) (v : Int) : Int := nx (s 0 10) / 65536 % v
theorem Ok.sd {s : XM} (k : Ok s) : 0 ≤ s 0 10 ∧ s 0 10 < 2147483648 := k.1.2.2.2.2.2.2.2.2.2.2
theorem Ok.dr {s : XM} (k : Ok s) : Ok (dr s) := k.seed (nx_b k.sd)
theorem dv_b {s : XM} {v : Int} (hv : 0 < v) : 0 ≤ dv s v ∧ dv s v < v := ⟨Int.emod_nonneg _ (by omega), Int.emod_lt_of_pos _ hv⟩
theorem c_next {s x : XM} {v : Int} {q : Int → XM → Prop} (h : CF s x) (k : Ok s) (hv : 0 < v) (hq : ∀ y : XM, CF (dr s) y → (∀ k, k ≠ 63 → y k = x k) → q (dv s v) y) : M_X3_next x v q := by
  intro y ey
  have e : x 63 0 = s 0 10 := h.e 0 10
  rw [e] at ey
  have ey : y = uX x 63 0 (nx (s 0 10)) := ey
  have e2 : y 63 0 = nx (s 0 10) := by rw [ey, uX_eq]
  have hb := nx_b k.sd
  rw [e2]
  refine iF (by omega) ⟨by omega, by omega, hv, hq y ?_ fun k hk => by rw [ey, uX_k hk]⟩
  rw [ey]
  exact h.seed
theorem r_draw {s x : XM} {v : Int} {q : Int → XM → Prop} (h : RF s x) (k : Ok s) (hv : 0 < v) (hq : ∀ y : XM, RF (dr s) y → (∀ k, k ≠ 83 → y k = x k) → q (dv s v) y) : M_X11_draw x v q := by
  intro y ey
  have e : x 83 31 = s 0 10 := h.e 0 10
  rw [e] at ey
  have ey : y = uX x 83 31 (nx (s 0 10)) := ey
  have e2 : y 83 31 = nx (s 0 10) := by rw [ey, uX_eq]
  have hb := nx_b k.sd
  rw [e2]
  refine ⟨by omega, by omega, hv, hq y ?_ fun k hk => by rw [ey, uX_k hk]⟩
  rw [ey]
  exact h.seed
theorem dr_0 {s : XM} {j : Nat} (h : j ≠ 10) : dr s 0 j = s 0 j := uX_j h
theorem dr_k {s : XM} {k : Nat} (h : k ≠ 0) : dr s k = s k := uX_k h
theorem nB_dr {s : XM} : nB (dr s) = nB s := by unfold nB; rw [dr_0 (by decide)]
theorem rg6 {d : Int} (h : 0 ≤ d ∧ d < 6) : Rg (1 + d) := ⟨by omega, by omega⟩
/-- one step of a drift -/
def dft (s : XM) : XM :=
  if s 5 (dv s (s 0 0)).toNat = 0 then (if s 0 4 ≤ dv (dr s) 100 then sO (dr (dr s)) (dv s (s 0 0)).toNat else uX (dr (dr (dr s))) 5 (dv s (s 0 0)).toNat (1 + dv (dr (dr s)) 6))
  else if 8 ≤ s 5 (dv s (s 0 0)).toNat then dr (dr s) else if dv (dr s) 100 < 90 then dr (dr s) else uX (dr (dr s)) 5 (dv s (s 0 0)).toNat 0
def itD : Nat → XM → XM
  | 0, s => s
  | n + 1, s => itD n (dft s)
theorem nB_dft {s : XM} : nB (dft s) = nB s := by
  unfold dft
  split
  · split
    · rw [nB_sO, nB_dr, nB_dr]
    · rw [nB_u5, nB_dr, nB_dr, nB_dr]
  · split
    · rw [nB_dr, nB_dr]
    · split
      · rw [nB_dr, nB_dr]
      · rw [nB_u5, nB_dr, nB_dr]
theorem Ok.dft {s : XM} (k : Ok s) (h0 : 0 < s 0 0) : Ok (dft s) := by
  have hn := k.n
  have hb := dv_b (s := s) h0
  have hl : (dv s (s 0 0)).toNat < nB s := by omega
  have h6 := dv_b (s := Jvm.Pilot.CButtonTinLaw_law_r5581_1f1b6c.dr (Jvm.Pilot.CButtonTinLaw_law_r5581_1f1b6c.dr s)) (v := 6) (by decide)
  unfold Jvm.Pilot.CButtonTinLaw_law_r5581_1f1b6c.dft
  split
  · split
    · exact k.dr.dr.so (by rw [nB_dr, nB_dr]; exact hl)
    · exact k.dr.dr.dr.set (by rw [nB_dr, nB_dr, nB_dr]; exact hl) (by omega) (by omega)
  · split
    · exact k.dr.dr
    · split
      · exact k.dr.dr
      · exact k.dr.dr.set (by rw [nB_dr, nB_dr]; exact hl) (by omega) (by omega)
theorem c_driftOnce {s x : XM} {q : XM → Prop} (h : CF s x) (k : Ok s) (h0 : 0 < s 0 0) (hq : ∀ y : XM, CF (dft s) y → Fr x y → q y) : M_X10_driftOnce x q := by
  have hn := k.n
  unfold dft at hq
  refine c_count1 h (c_next h k h0 fun y hy fy => c_next hy k.dr (by decide) fun z hz fz => ?_)
  have hb := dv_b (s := s) h0
  obtain ⟨b, eb⟩ : ∃ b : Nat, dv s (s 0 0) = (b : Int) := ⟨(dv s (s 0 0)).toNat, by omega⟩
  rw [eb, Int.toNat_natCast] at hq
  rw [eb, Int.toNat_natCast]
  have hbl : b < nB s := by omega
  have f : ∀ k, k ≠ 63 → z k = x k := fun k hk => (fz k hk).trans (fy k hk)
  have kk := k.dr.dr
  have d2 : dr (dr s) 0 0 = s 0 0 := by rw [dr_0 (by decide), dr_0 (by decide)]
  have d3 : dr (dr (dr s)) 0 0 = s 0 0 := by rw [dr_0 (by decide), d2]
  have e5 : dr (dr s) 5 = s 5 := by rw [dr_k (by decide), dr_k (by decide)]
  have hi := hz.iff (b := b) (v := 6) (by omega) (by decide)
  rw [enc_6, e5] at hi
  refine ⟨⟨by omega, by omega⟩, ?_⟩
  by_cases c : s 5 b = 0
  · rw [if_pos c] at hq
    refine jF (hi.2 c) (c_errs hz ?_)
    rw [dr_0 (by decide), dr_0 (by decide)]
    by_cases c2 : s 0 4 ≤ dv (dr s) 100
    · rw [if_pos c2] at hq
      refine iT c2 (c_sortAlone hz kk (by rw [nB_dr, nB_dr]; exact hbl) fun w hw fw => hq w hw fun k hk => by rw [fw k (by omega) (by omega), f k (by omega)])
    · rw [if_neg c2] at hq
      have h6 := dv_b (s := dr (dr s)) (v := 6) (by decide)
      refine iF c2 (c_next hz kk (by decide) fun w hw fw => ⟨⟨by omega, by omega⟩, fun u eu => hq u ?_ fun k hk => by rw [eu, uX_k (by omega), fw k (by omega), f k (by omega)]⟩)
      have := hw.set (b := b) (z := dv (dr (dr s)) 6) (by omega) (by omega)
      rw [enc_h h6] at this
      rw [eu]
      exact this
  · rw [if_neg c] at hq
    refine jT (fun e => c (hi.1 e)) (c_isSewn hz (by omega) ?_)
    rw [e5]
    by_cases c2 : 8 ≤ s 5 b
    · rw [if_pos c2] at hq
      rw [if_neg (by omega)]
      exact jT (by decide) (hq z hz fun k hk => f k (by omega))
    · rw [if_neg c2] at hq
      rw [if_pos (by omega)]
      refine jF rfl ⟨fun c3 => ?_, fun c3 => ⟨⟨by omega, by omega⟩, fun u eu => ?_⟩⟩
      · rw [if_pos c3] at hq
        exact hq z hz fun k hk => f k (by omega)
      · rw [if_neg c3] at hq
        refine hq u ?_ fun k hk => by rw [eu, uX_k (by omega), f k (by omega)]
        rw [eu, ← enc_6]
        exact hz.set (by omega) (by decide)
theorem c_drift_55 {t x : XM} {v : Nat} {q : Int → XM → Prop} (hv : v ≤ 60) (n : Nat) : ∀ (i : Nat) (s y : XM), Ok s → 0 < s 0 0 → i ≤ v → v < i + n → itD (v - i) s = t → CF s y → Fr x y → (∀ z : XM, CF t z → Ok t → Fr x z → q (t 5 30) z) → M_X10_drift_55 q n y (v : Int) (i : Int) := by
  induction n with
  | zero => intro i s y _ _ h1 h2; omega
  | succ n ih =>
    intro i s y k h0 h1 h2 e hy fy hq
    unfold M_X10_drift_55
    refine ⟨fun c => ?_, fun c => c_driftOnce hy k h0 fun z hz fz => ⟨rg1 (by omega), ?_⟩⟩
    · rw [show v - i = 0 by omega] at e
      have e : s = t := e
      subst e
      rw [← hy.sl]
      exact hq y hy k fy
    · rw [show v - i = (v - (i + 1)) + 1 by omega] at e
      have hn := k.n
      have hn2 := (k.dft h0).n
      rw [nB_dft] at hn2
      exact ih (i + 1) (dft s) z (k.dft h0) (by omega) (by omega) (by omega) e hz (fy.tr fz) hq
theorem r_drift_29 {t x : XM} {v : Nat} {q : Int → XM → Prop} (hv : v ≤ 60) (n : Nat) : ∀ (i : Nat) (s y : XM), Ok s → 0 < s 0 0 → i ≤ v → v < i + n → itD (v - i) s = t → RF s y → Gr x y → (∀ z : XM, RF t z → Gr x z → q (t 5 30) z) → M_X11_drift_29 q n y (v : Int) (i : Int) := by
  induction n with
  | zero => intro i s y _ _ h1 h2; omega
  | succ n ih =>
    intro i s y k h0 h1 h2 e hy fy hq
    unfold M_X11_drift_29
    rw [hy.n]
    refine ⟨fun c => ?_, fun c => iF (by omega) ?_⟩
    · rw [show v - i = 0 by omega] at e
      have e : s = t := e
      subst e
      rw [hy.nw (by omega)]
      exact hq y hy fy
    · rw [show v - i = (v - (i + 1)) + 1 by omega] at e
      have hn := k.n
      have hn2 := (k.dft h0).n
      rw [nB_dft] at hn2
      have G : ∀ z : XM, RF (dft s) z → Gr y z → M_X11_drift_29 q n z (v : Int) ((i : Int) + 1) := fun z hz fz => ih (i + 1) (dft s) z (k.dft h0) (by omega) (by omega) (by omega) e hz (fy.tr fz) hq
      clear e ih hn2
      refine r_draw hy k h0 fun y1 hy1 fy1 => r_draw hy1 k.dr (by decide) fun z hz fz => ?_
      have hb := dv_b (s := s) h0
      obtain ⟨b, eb⟩ : ∃ b : Nat, dv s (s 0 0) = (b : Int) := ⟨(dv s (s 0 0)).toNat, by omega⟩
      unfold dft at G
      rw [eb, Int.toNat_natCast] at G
      rw [eb, Int.toNat_natCast]
      have hbl : b < nB s := by omega
      have f : ∀ k, k ≠ 83 → z k = y k := fun k hk => (fz k hk).trans (fy1 k hk)
      have kk := k.dr.dr
      have d2 : dr (dr s) 0 0 = s 0 0 := by rw [dr_0 (by decide), dr_0 (by decide)]
      have d3 : dr (dr (dr s)) 0 0 = s 0 0 := by rw [dr_0 (by decide), d2]
      have e5 : dr (dr s) 5 = s 5 := by rw [dr_k (by decide), dr_k (by decide)]
      have e4 : z 83 2 = s 0 4 := by
        rw [show z 83 2 = dr (dr s) 0 4 from hz.e 0 4, dr_0 (by decide), dr_0 (by decide)]
      rw [hz.nw (by omega), e5, e4]
      refine ⟨⟨by omega, by omega⟩, ?_⟩
      by_cases c : s 5 b = 0
      · rw [if_pos c] at G
        refine jF c ?_
        by_cases c2 : s 0 4 ≤ dv (dr s) 100
        · rw [if_pos c2] at G
          refine iT c2 (r_sortOne hz kk (by rw [nB_dr, nB_dr]; exact hbl) fun w hw fw => ⟨rg1 (by omega), G w hw fun k hk => by rw [fw k (by omega), f k (by omega)]⟩)
        · rw [if_neg c2] at G
          have h6 := dv_b (s := dr (dr s)) (v := 6) (by decide)
          refine iF c2 (r_draw hz kk (by decide) fun w hw fw => ⟨rg6 h6, ⟨by omega, by omega⟩, fun u eu => ⟨rg1 (by omega), G u ?_ fun k hk => by rw [eu, uX_k (by omega), fw k (by omega), f k (by omega)]⟩⟩)
          rw [eu]
          exact hw.set (by omega)
      · rw [if_neg c] at G
        refine jT c ⟨⟨by omega, by omega⟩, ?_⟩
        by_cases c2 : 8 ≤ s 5 b
        · rw [if_pos c2] at G
          exact iT c2 ⟨rg1 (by omega), G z hz fun k hk => f k (by omega)⟩
        · rw [if_neg c2] at G
          refine iF c2 ⟨fun c3 => ⟨rg1 (by omega), ?_⟩, fun c3 => ⟨⟨by omega, by omega⟩, fun u eu => ⟨rg1 (by omega), ?_⟩⟩⟩
          · rw [if_pos c3] at G
            exact G z hz fun k hk => f k (by omega)
          · rw [if_neg c3] at G
            refine G u ?_ fun k hk => by rw [eu, uX_k (by omega), f k (by omega)]
            rw [eu]
            exact hz.set (by omega)
def uDri (s : XM) (v : Int) : Int × XM := if 1 ≤ v ∧ v ≤ 60 then (if s 0 5 = 0 then (-1000000003, s) else if s 0 0 ≤ 0 then (s 5 30, kn s) else (itD v.toNat (kn s) 5 30, itD v.toNat (kn s))) else (-1000000002, s)
theorem C_drift {s x : XM} {v : Int} {q : Int → XM → Prop} (h : CF s x) (k : Ok s) (hq : ∀ y : XM, CF (uDri s v).2 y → Ok (uDri s v).2 → Fr x y → q (uDri s v).1 y) : M_X10_drift x v q := by
  unfold uDri at hq
  by_cases c : 1 ≤ v ∧ v ≤ 60
  · rw [if_pos c] at hq
    refine iF (by omega) (iT c.2 (c_count0 h ⟨fun c2 => C_remember h k fun y hy fy => c_count1 hy ?_, fun c2 => ?_⟩))
    · rw [if_neg c2] at hq
      rw [kn_05 (by decide)]
      have f : Fr x y := fun k hk => fy k (by omega)
      refine ⟨fun c3 => ?_, fun c3 => ?_⟩
      · rw [if_pos c3] at hq
        rw [← hy.sl, kno5]
        exact hq y hy k.knw f
      · rw [if_neg c3] at hq
        obtain ⟨n, rfl⟩ : ∃ n : Nat, v = n := ⟨v.toNat, by omega⟩
        rw [Int.toNat_natCast] at hq
        exact ⟨n + 1, c_drift_55 (x := x) (t := itD n (kn s)) (by omega) (n + 1) 0 (kn s) y k.knw (by rw [kn_05 (by decide)]; omega) (by omega) (by omega) rfl hy f hq⟩
    · rw [if_pos c2] at hq
      exact hq x h k Fr.rf
  · rw [if_neg c] at hq
    refine ⟨fun _ => hq x h k Fr.rf, fun c2 => iF (by omega) (hq x h k Fr.rf)⟩
theorem R_drift {s x : XM} {v : Int} {q : Int → XM → Prop} (h : RF s x) (k : Ok s) (hq : ∀ y : XM, RF (uDri s v).2 y → Gr x y → q (uDri s v).1 y) : M_X11_drift x v q := by
  unfold uDri at hq
  refine r_in ?_
  have e20 : x 83 20 = s 0 5 := h.e 0 5
  by_cases c : 1 ≤ v ∧ v ≤ 60
  · rw [if_pos c] at hq ⊢
    rw [e20]
    refine jT (by decide) ⟨fun c2 => R_know h k fun y hy fy fy2 => ?_, fun c2 => ?_⟩
    · rw [if_neg c2] at hq
      have f : Gr x y := fun k hk => fy k (by omega) (by omega)
      obtain ⟨n, rfl⟩ : ∃ n : Nat, v = n := ⟨v.toNat, by omega⟩
      refine ⟨n + 1, ?_⟩
      by_cases c3 : s 0 0 ≤ 0
      · rw [if_pos c3] at hq
        unfold M_X11_drift_29
        rw [hy.n, hy.nw (by omega), kno5, kn_05 (by decide)]
        exact iF (by omega) (iT c3 (hq y hy f))
      · rw [if_neg c3, Int.toNat_natCast] at hq
        exact r_drift_29 (x := x) (t := itD n (kn s)) (by omega) (n + 1) 0 (kn s) y k.knw (by rw [kn_05 (by decide)]; omega) (by omega) (by omega) rfl hy f hq
    · rw [if_pos c2] at hq
      exact hq x h Gr.rf
  · rw [if_neg c] at hq ⊢
    exact jF rfl (hq x h Gr.rf)
