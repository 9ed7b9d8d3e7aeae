/-! ===== small questions, asked of both sides ===== -/
theorem CF.e {s x : XM} (h : CF s x) (k j : Nat) : cS x k j = s k j := congrFun (congrFun h.1 k) j
theorem RF.e {s x : XM} (h : RF s x) (k j : Nat) : rS x k j = s k j := congrFun (congrFun h.1 k) j
theorem iT {c A B : Prop} (hc : c) (h : A) : (c → A) ∧ (¬ c → B) := ⟨fun _ => h, fun n => absurd hc n⟩
theorem iF {c A B : Prop} (hc : ¬ c) (h : B) : (c → A) ∧ (¬ c → B) := ⟨fun n => absurd n hc, fun _ => h⟩
theorem jT {c A B : Prop} (hc : ¬ c) (h : A) : (¬ c → A) ∧ (c → B) := ⟨fun _ => h, fun n => absurd n hc⟩
theorem jF {c A B : Prop} (hc : c) (h : B) : (¬ c → A) ∧ (c → B) := ⟨fun n => absurd hc n, fun _ => h⟩
theorem rg1 {a : Nat} (h : a < 2147483647) : Rg ((a : Int) + 1) := ⟨by omega, by omega⟩
theorem msk_n {n r z : Int} {c : Nat} (h : 0 < n ∨ 0 < r ∨ c = 30) : msk n r c z = z := if_neg (by omega)
theorem CF.m5 {s x : XM} (h : CF s x) (j : Nat) : s 5 j = if j < 31 then msk (s 0 0) (s 0 1) j (snap x 4 j) else 0 := by
  rw [← h.e 5 j, ← h.e 0 0, ← h.e 0 1]
  rfl
/-- what the class's places hold -/
theorem CF.pl {s x : XM} (h : CF s x) {b : Nat} (hb : b < 12 ∧ (0 < s 0 0 ∨ 0 < s 0 1)) : s 5 b = enc (x 5 b) ∧ 0 ≤ x 5 b ∧ x 5 b ≤ 12 := by
  refine ⟨?_, (h.2.2.1 4 (by decide)).1 b hb.1⟩
  rw [h.m5, if_pos (by omega), msk_n (by omega)]
  unfold snap
  rw [if_pos hb.1]
theorem CF.be {s x : XM} (h : CF s x) {b : Nat} (hb : b < 12 ∧ (0 < s 0 0 ∨ 0 < s 0 1)) : s 5 (12 + b) = tbit (x 4 2) b := by
  rw [h.m5, if_pos (by omega), msk_n (by omega)]
  unfold snap
  rw [if_neg (by omega), if_pos (by omega), Nat.add_sub_cancel_left]
theorem CF.or {s x : XM} (h : CF s x) {p : Nat} (hp : p < 6 ∧ (0 < s 0 0 ∨ 0 < s 0 1)) : s 5 (24 + p) = x 6 p := by
  rw [h.m5, if_pos (by omega), msk_n (by omega)]
  unfold snap
  rw [if_neg (by omega), if_neg (by omega), if_pos (by omega), Nat.add_sub_cancel_left]
theorem CF.sl {s x : XM} (h : CF s x) : s 5 30 = x 4 3 := by
  rw [h.m5, if_pos (by omega), msk_n (by omega)]
  rfl
theorem CF.mk {s x : XM} (h : CF s x) {j : Nat} (hj : (j : Int) < 4 * s 0 0) : s 1 j = x (tid (x 3 1) + 2) (4 + j) := by
  rw [← h.e 1 j]
  show (if (j : Int) < 4 * cS x 0 0 then x (tid (x 3 1) + 2) (4 + j) else 0) = _
  rw [h.e 0 0, if_pos hj]
theorem CF.ru {s x : XM} (h : CF s x) {j : Nat} (hj : (j : Int) < 4 * s 0 1) : s 2 j = x (tid (x 3 1) + 2) (52 + j) := by
  rw [← h.e 2 j]
  show (if (j : Int) < 4 * cS x 0 1 then x (tid (x 3 1) + 2) (52 + j) else 0) = _
  rw [h.e 0 1, if_pos hj]
theorem CF.ca {s x : XM} (h : CF s x) {j : Nat} (hj : (j : Int) < 4 * s 0 2) : s 3 j = x (tid (x 3 1) + 2) (76 + j) := by
  rw [← h.e 3 j]
  show (if (j : Int) < 4 * cS x 0 2 then x (tid (x 3 1) + 2) (76 + j) else 0) = _
  rw [h.e 0 2, if_pos hj]
theorem CF.ne {s x : XM} (h : CF s x) {j : Nat} (hj : (j : Int) < s 0 3) : s 4 j = x (tid (x 3 1) + 2) (96 + 4 * j) := by
  rw [← h.e 4 j]
  show (if (j : Int) < cS x 0 3 then x (tid (x 3 1) + 2) (96 + 4 * j) else 0) = _
  rw [h.e 0 3, if_pos hj]
theorem RF.m5 {s x : XM} (h : RF s x) (j : Nat) : s 5 j = if j < 31 then msk (s 0 0) (s 0 1) j (x 93 j) else 0 := by
  rw [← h.e 5 j, ← h.e 0 0, ← h.e 0 1]
  rfl
theorem RF.nw {s x : XM} (h : RF s x) {j : Nat} (hj : j < 31 ∧ (0 < s 0 0 ∨ 0 < s 0 1 ∨ j = 30)) : x 93 j = s 5 j := by
  rw [h.m5, if_pos hj.1, msk_n hj.2]
theorem RF.mk {s x : XM} (h : RF s x) {j : Nat} (hj : (j : Int) < 4 * s 0 0) : x 85 j = s 1 j := by
  rw [← h.e 1 j]
  show _ = (if (j : Int) < 4 * rS x 0 0 then x 85 j else 0)
  rw [h.e 0 0, if_pos hj]
theorem RF.ru {s x : XM} (h : RF s x) {j : Nat} (hj : (j : Int) < 4 * s 0 1) : x 86 j = s 2 j := by
  rw [← h.e 2 j]
  show _ = (if (j : Int) < 4 * rS x 0 1 then x 86 j else 0)
  rw [h.e 0 1, if_pos hj]
theorem RF.ca {s x : XM} (h : RF s x) {j : Nat} (hj : (j : Int) < 4 * s 0 2) : x 87 j = s 3 j := by
  rw [← h.e 3 j]
  show _ = (if (j : Int) < 4 * rS x 0 2 then x 87 j else 0)
  rw [h.e 0 2, if_pos hj]
theorem RF.ne {s x : XM} (h : RF s x) {j : Nat} (hj : (j : Int) < s 0 3) : x 88 j = s 4 j := by
  rw [← h.e 4 j]
  show _ = (if (j : Int) < rS x 0 3 then x 88 j else 0)
  rw [h.e 0 3, if_pos hj]
theorem c_count0 {s x : XM} {q : Int → Prop} (h : CF s x) (hq : q (s 0 5)) : M_X0_count x 0 q := ⟨by decide, by rw [← h.e 0 5] at hq; exact hq⟩
theorem c_count1 {s x : XM} {q : Int → Prop} (h : CF s x) (hq : q (s 0 0)) : M_X0_count x 1 q := ⟨by decide, by rw [← h.e 0 0] at hq; exact hq⟩
theorem c_count2 {s x : XM} {q : Int → Prop} (h : CF s x) (hq : q (s 0 1)) : M_X0_count x 2 q := ⟨by decide, by rw [← h.e 0 1] at hq; exact hq⟩
theorem c_count3 {s x : XM} {q : Int → Prop} (h : CF s x) (hq : q (s 0 2)) : M_X0_count x 3 q := ⟨by decide, by rw [← h.e 0 2] at hq; exact hq⟩
theorem c_count4 {s x : XM} {q : Int → Prop} (h : CF s x) (hq : q (s 0 3)) : M_X0_count x 4 q := ⟨by decide, by rw [← h.e 0 3] at hq; exact hq⟩
theorem sI_1 : sI 1 0 = 0 ∧ sI 1 1 = 1 ∧ sI 1 2 = 13 ∧ sI 1 3 = 19 ∧ sI 1 4 = 24 := by decide
theorem c_val1 {s x : XM} {b m : Nat} {q : Int → Prop} (h : CF s x) (k : Ok s) (hb : b < nB s) (hm : m < 4) (hq : q (s 1 (4 * b + m))) : M_X9_value (x 3 1) x 1 (b : Int) (m : Int) q := by
  have := k.n
  have e : sI 1 (Int.toNat 1) = 1 := sI_1.2.1
  refine ⟨by decide, by rw [e]; omega, ?_⟩
  rw [e, show ((((1 : Int) + b) * 4) + m).toNat = 4 + (4 * b + m) by omega, ← h.mk (by omega)]
  exact hq
theorem c_val2 {s x : XM} {b m : Nat} {q : Int → Prop} (h : CF s x) (k : Ok s) (hb : b < nR s) (hm : m < 4) (hq : q (s 2 (4 * b + m))) : M_X9_value (x 3 1) x 2 (b : Int) (m : Int) q := by
  have := k.r
  have e : sI 1 (Int.toNat 2) = 13 := sI_1.2.2.1
  refine ⟨by decide, by rw [e]; omega, ?_⟩
  rw [e, show ((((13 : Int) + b) * 4) + m).toNat = 52 + (4 * b + m) by omega, ← h.ru (by omega)]
  exact hq
theorem c_val3 {s x : XM} {b m : Nat} {q : Int → Prop} (h : CF s x) (k : Ok s) (hb : b < nC s) (hm : m < 4) (hq : q (s 3 (4 * b + m))) : M_X9_value (x 3 1) x 3 (b : Int) (m : Int) q := by
  have := k.c
  have e : sI 1 (Int.toNat 3) = 19 := sI_1.2.2.2.1
  refine ⟨by decide, by rw [e]; omega, ?_⟩
  rw [e, show ((((19 : Int) + b) * 4) + m).toNat = 76 + (4 * b + m) by omega, ← h.ca (by omega)]
  exact hq
theorem c_val4 {s x : XM} {b : Nat} {q : Int → Prop} (h : CF s x) (k : Ok s) (hb : b < nN s) (hq : q (s 4 b)) : M_X9_value (x 3 1) x 4 (b : Int) 0 q := by
  have := k.w
  have e : sI 1 (Int.toNat 4) = 24 := sI_1.2.2.2.2
  refine ⟨by decide, by rw [e]; omega, ?_⟩
  rw [e, show ((((24 : Int) + b) * 4) + 0).toNat = 96 + 4 * b by omega, ← h.ne (by omega)]
  exact hq
theorem c_errs {s x : XM} {q : Int → Prop} (h : CF s x) (hq : q (s 0 4)) : M_X0_errs x q := by
  have e : s 0 4 = if s 0 5 = 0 then 0 else x (tid (x 3 1) + 2) 0 := by
    rw [← h.e 0 4, ← h.e 0 5]
    rfl
  refine c_count0 h ⟨fun c => ?_, fun c => ?_⟩
  · rw [e, if_neg c] at hq
    exact ⟨by decide, by decide, hq⟩
  · rw [e, if_pos c] at hq
    exact hq
theorem c_from_5 {s x : XM} {q : Int → Prop} {lo hi : Int} (h : CF s x) (k : Ok s) (hq : q ((bts (fun b => decide (lo ≤ x 5 b ∧ x 5 b < hi)) (nB s) : Nat) : Int)) (n : Nat) : ∀ b, b ≤ nB s → nB s < b + n → M_X0_from_5 q x n lo hi ((bts (fun b => decide (lo ≤ x 5 b ∧ x 5 b < hi)) b : Nat) : Int) (b : Int) := by
  have := k.n
  induction n with
  | zero => intro b h1 h2; omega
  | succ n ih =>
    intro b h1 h2
    unfold M_X0_from_5
    refine c_count1 h ⟨fun c => ?_, fun c => ?_⟩
    · rw [show b = nB s by omega]
      exact hq
    · have ih := ih (b + 1) (by omega) (by omega)
      have e : ((b : Int)).toNat = b := Int.toNat_natCast b
      refine ⟨⟨by omega, by omega⟩, ?_⟩
      rw [e]
      by_cases c1 : x 5 b < lo
      · refine iT c1 ⟨rg1 (by omega), ?_⟩
        rw [bts_no (by simp; omega)] at ih
        exact ih
      · refine iF c1 ⟨⟨by omega, by omega⟩, ?_⟩
        by_cases c2 : hi ≤ x 5 b
        · refine iT c2 ⟨rg1 (by omega), ?_⟩
          rw [bts_no (by simp; omega)] at ih
          exact ih
        · refine iF c2 ⟨rg1 (by omega), ?_⟩
          rw [bts_add (by omega) (by simp; omega)]
          exact ih
theorem c_from {s x : XM} {q : Int → Prop} {lo hi : Int} (h : CF s x) (k : Ok s) (hq : q ((bts (fun b => decide (lo ≤ x 5 b ∧ x 5 b < hi)) (nB s) : Nat) : Int)) : M_X0_from x lo hi q := ⟨nB s + 1, c_from_5 h k hq (nB s + 1) 0 (by omega) (by omega)⟩
theorem enc_inj {a b : Int} (ha : 0 ≤ a ∧ a ≤ 12) (hb : 0 ≤ b ∧ b ≤ 12) (h : enc a = enc b) : a = b := by
  unfold enc at h
  split at h <;> split at h <;> (try split at h) <;> (try split at h) <;> omega
theorem c_at {s x : XM} {q : Int → Prop} {v : Int} (h : CF s x) (k : Ok s) (h0 : 0 ≤ v ∧ v ≤ 12) (hq : q ((sSt s (enc v) : Nat) : Int)) : M_X0_at x v q := by
  refine ⟨⟨by omega, by omega⟩, c_from h k ?_⟩
  have e : bts (fun b => decide (v ≤ x 5 b ∧ x 5 b < v + 1)) (nB s) = sSt s (enc v) := by
    refine bts_cong fun i hi => ?_
    have := k.n
    obtain ⟨h1, h2⟩ := h.pl (b := i) (by omega)
    show decide _ = decide _
    rw [decide_eq_decide, h1]
    exact ⟨fun c => by rw [show x 5 i = v by omega], fun c => by have := enc_inj h2 h0 c; omega⟩
  rw [e]
  exact hq
theorem c_mark {s x : XM} {b m : Nat} {q : Int → Prop} (h : CF s x) (k : Ok s) (hb : b < nB s) (hm : m < 4) (hq : q (sMk s b m)) : M_X0_mark x (b : Int) (m : Int) q := by
  have := k.n
  unfold sMk at hq
  refine ⟨fun c => ?_, fun c => ?_⟩
  · rw [if_neg (by omega)] at hq
    exact c_val1 h k hb hm hq
  · rw [if_pos (by omega), h.be (by omega)] at hq
    have hh := (h.2.2.1 4 (by decide)).2
    rw [show x 4 2 = ((x 4 2).toNat : Int) by omega, jbit (by omega) (by omega)]
    exact hq
theorem c_passes {x : XM} {m o v : Int} {q : Int → Prop} (hq : q (if sBy o v m then 1 else 0)) : M_X0_passes x m o v q := by
  unfold sBy at hq
  refine ⟨fun c => ?_, fun c => ?_⟩
  · rw [if_neg c] at hq
    refine ⟨fun d => ?_, fun d => ?_⟩
    · rw [if_neg d] at hq
      refine ⟨fun e => ?_, fun e => ?_⟩
      · rwa [if_neg (by simp; omega)] at hq
      · rwa [if_pos (by simp; omega)] at hq
    · rw [if_pos d] at hq
      refine ⟨fun e => ?_, fun e => ?_⟩
      · rwa [if_neg (by simp; omega)] at hq
      · rwa [if_pos (by simp; omega)] at hq
  · rw [if_pos c] at hq
    refine ⟨fun e => ?_, fun e => ?_⟩
    · rwa [if_neg (by simp; omega)] at hq
    · rwa [if_pos (by simp; omega)] at hq
theorem r_isBy {x : XM} {m o v : Int} {q : Int → Prop} (hq : q (if sBy o v m then 1 else 0)) : M_X11_isBy x o v m q := by
  unfold sBy at hq
  refine ⟨fun c => ?_, fun c => ?_⟩
  · rw [if_neg c] at hq
    refine ⟨fun d => ?_, fun d => ?_⟩
    · rw [if_neg d] at hq
      refine ⟨fun e => ?_, fun e => ?_⟩
      · rwa [if_neg (by simp; omega)] at hq
      · rwa [if_pos (by simp; omega)] at hq
    · rw [if_pos d] at hq
      refine ⟨fun e => ?_, fun e => ?_⟩
      · rwa [if_neg (by simp; omega)] at hq
      · rwa [if_pos (by simp; omega)] at hq
  · rw [if_pos c] at hq
    refine ⟨fun e => ?_, fun e => ?_⟩
    · rwa [if_neg (by simp; omega)] at hq
    · rwa [if_pos (by simp; omega)] at hq
/-- the order of the rules holds rules that are there -/
theorem Ok.or {s : XM} (k : Ok s) {p : Nat} (hp : p < nR s) : ∃ r : Nat, s 5 (24 + p) = (r : Int) ∧ r < nR s := by
  have h1 := k.r
  obtain ⟨_, _, _, _, _, h6, h7, _⟩ := k.2.2.1
  have a := h6 p (by omega)
  have b := h7 p (by omega)
  rw [Nat.zero_add] at a b
  exact ⟨(s 5 (24 + p)).toNat, by omega, by omega⟩
theorem Ok.ru {s : XM} (k : Ok s) {r : Nat} (hr : r < nR s) : RuOk s r := k.2.1.2.1 r (by have := k.r; omega)
theorem Ok.mk {s : XM} (k : Ok s) {b : Nat} (hb : b < nB s) : MkOk s 1 b := k.2.1.1 b (by have := k.n; omega)
theorem Ok.ca {s : XM} (k : Ok s) {c : Nat} (hc : c < nC s) : MkOk s 3 c := k.2.1.2.2.1 c (by have := k.c; omega)
theorem Ok.ne {s : XM} (k : Ok s) {n : Nat} (hn : n < nN s) : 0 ≤ s 4 n ∧ s 4 n ≤ 99 := k.2.1.2.2.2 n (by have := k.w; omega)
theorem fstR_ge {s : XM} (k : Ok s) (b n : Nat) : ∀ p, p + n = nR s → fstR s b n p = -1 ∨ ∃ r : Nat, fstR s b n p = (r : Int) ∧ r < nR s := by
  induction n with
  | zero => exact fun p _ => Or.inl rfl
  | succ n ih =>
    intro p hp
    unfold fstR
    split
    · exact Or.inr (k.or (by omega))
    · exact ih (p + 1) (by omega)
theorem sRu_ge {s : XM} (k : Ok s) (b : Nat) : sRu s b = -1 ∨ ∃ r : Nat, sRu s b = (r : Int) ∧ r < nR s := fstR_ge k b (nR s) 0 (by omega)
theorem c_firstRule_2 {s x : XM} {b : Nat} {q : Int → Prop} (h : CF s x) (k : Ok s) (hb : b < nB s) (n : Nat) : ∀ p, p ≤ nR s → nR s < p + n → q (fstR s b (nR s - p) p) → M_X0_firstRule_2 q x n (b : Int) (p : Int) := by
  have := k.r
  induction n with
  | zero => intro p h1 h2; omega
  | succ n ih =>
    intro p h1 h2 hq
    unfold M_X0_firstRule_2
    refine c_count2 h ⟨fun c => ?_, fun c => ?_⟩
    · rw [show nR s - p = 0 by omega] at hq
      exact hq
    · obtain ⟨r, hr, hl⟩ := k.or (p := p) (by omega)
      have e : ((p : Int)).toNat = p := Int.toNat_natCast p
      refine ⟨⟨by omega, by omega⟩, ?_⟩
      rw [e, ← h.or (by omega), hr]
      have hru := k.ru hl
      obtain ⟨m, hm⟩ : ∃ m : Nat, s 2 (4 * r) = (m : Int) := ⟨(s 2 (4 * r)).toNat, by have := hru.1; omega⟩
      refine c_val2 h k hl (m := 0) (by decide) ?_
      show M_X0_mark x b (s 2 (4 * r)) _
      rw [hm]
      refine c_mark h k hb (by have := hru.1; omega) ?_
      refine c_val2 h k hl (m := 1) (by decide) ?_
      refine c_val2 h k hl (m := 2) (by decide) ?_
      refine c_passes ?_
      rw [show nR s - p = (nR s - (p + 1)) + 1 by omega] at hq
      unfold fstR at hq
      rw [hr, Int.toNat_natCast] at hq
      unfold sPR at hq
      rw [hm, Int.toNat_natCast] at hq
      by_cases c2 : sBy (s 2 (4 * r + 1)) (s 2 (4 * r + 2)) (sMk s b m) = true
      · rw [if_pos c2] at hq ⊢
        exact iF (by decide) hq
      · rw [if_neg c2] at hq ⊢
        exact iT rfl ⟨rg1 (by omega), ih (p + 1) (by omega) (by omega) hq⟩
theorem c_firstRule {s x : XM} {b : Nat} {q : Int → Prop} (h : CF s x) (k : Ok s) (hb : b < nB s) (hq : q (sRu s b)) : M_X0_firstRule x (b : Int) q := ⟨nR s + 1, c_firstRule_2 h k hb (nR s + 1) 0 (by omega) (by omega) hq⟩
theorem c_goal {s x : XM} {b : Nat} {q : Int → Prop} (h : CF s x) (k : Ok s) (hb : b < nB s) (hq : q (sGo s b)) : M_X0_goal x (b : Int) q := by
  refine c_firstRule h k hb ?_
  unfold sGo at hq
  rcases sRu_ge k b with e | ⟨r, e, hr⟩
  · rw [e] at hq ⊢
    rw [if_pos rfl] at hq
    exact jF rfl hq
  · rw [e] at hq ⊢
    rw [if_neg (by omega), Int.toNat_natCast] at hq
    exact jT (by omega) (c_val2 h k hr (m := 3) (by decide) hq)
theorem c_out_4 {s x : XM} {q : Int → Prop} (h : CF s x) (k : Ok s) (hq : q ((bts (fun b => decide (sGo s b = -1)) (nB s) : Nat) : Int)) (n : Nat) : ∀ b, b ≤ nB s → nB s < b + n → M_X0_out_4 q x n ((bts (fun b => decide (sGo s b = -1)) b : Nat) : Int) (b : Int) := by
  have := k.n
  induction n with
  | zero => intro b h1 h2; omega
  | succ n ih =>
    intro b h1 h2
    unfold M_X0_out_4
    refine c_count1 h ⟨fun c => ?_, fun c => ?_⟩
    · rw [show b = nB s by omega]
      exact hq
    · have ih := ih (b + 1) (by omega) (by omega)
      refine c_goal h k (by omega) ?_
      by_cases c1 : sGo s b = -1
      · refine jF c1 ⟨rg1 (by omega), ?_⟩
        rw [bts_add (by omega) (by simp [c1])]
        exact ih
      · refine jT c1 ⟨rg1 (by omega), ?_⟩
        rw [bts_no (by simp [c1])] at ih
        exact ih
theorem c_out {s x : XM} {q : Int → Prop} (h : CF s x) (k : Ok s) (hq : q ((bts (fun b => decide (sGo s b = -1)) (nB s) : Nat) : Int)) : M_X0_out x q := ⟨nB s + 1, c_out_4 h k hq (nB s + 1) 0 (by omega) (by omega)⟩
theorem c_heapOf {s x : XM} {b : Nat} {q : Int → Prop} (h : CF s x) (hb : b < 12 ∧ (0 < s 0 0 ∨ 0 < s 0 1)) (hq : q (sHp s b)) : M_X0_heapOf x (b : Int) q := by
  obtain ⟨h1, h2⟩ := h.pl hb
  unfold sHp at hq
  rw [h1] at hq
  refine ⟨⟨by omega, by omega⟩, ?_⟩
  rw [Int.toNat_natCast]
  unfold enc at hq
  refine ⟨fun c => ?_, fun c => ⟨⟨by omega, by omega⟩, ?_⟩⟩
  · rw [if_neg (by split <;> (try split) <;> omega)] at hq
    exact hq
  · rw [if_pos (by split <;> (try split) <;> omega), if_neg (by omega), if_pos (by omega)] at hq
    rw [show x 5 b + 1 - 1 = x 5 b by omega] at hq
    exact hq
