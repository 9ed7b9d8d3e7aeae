/-! ===== the class's reader ===== -/
def Tx (s y : XM) : Prop := y 1 1 = (nX s : Int) ∧ ∀ j, j < nX s → y 2 j = s 8 j
def Mv (y z : XM) (p : Nat) : Prop := (∀ k, k ≠ 1 → z k = y k) ∧ (∀ j, j ≠ 2 → z 1 j = y 1 j) ∧ z 1 2 = (p : Int)
theorem Mv.tx {s y z : XM} {p : Nat} (h : Mv y z p) (t : Tx s y) : Tx s z := ⟨by rw [h.2.1 1 (by decide)]; exact t.1, fun j hj => by rw [h.1 2 (by decide)]; exact t.2 j hj⟩
theorem Mv.tr {x y z : XM} {p p' : Nat} (h : Mv x y p) (h' : Mv y z p') : Mv x z p' := ⟨fun k hk => by rw [h'.1 k hk, h.1 k hk], fun j hj => by rw [h'.2.1 j hj, h.2.1 j hj], h'.2.2⟩
theorem Mv.rf {y : XM} {p : Nat} (h : y 1 2 = (p : Int)) : Mv y y p := ⟨fun _ _ => rfl, fun _ _ => rfl, h⟩
theorem Mv.up {y z : XM} {p : Nat} (h : z = uX y 1 2 (p : Int)) : Mv y z p := ⟨fun k hk => by rw [h, uX_k hk], fun j hj => by rw [h, uX_j hj], by rw [h, uX_eq]⟩
theorem c_end_0 {s : XM} {q : Int → XM → Prop} (k : Ok s) (n : Nat) : ∀ (p : Nat) (y : XM), p ≤ nX s → nX s < p + n → Tx s y → y 1 2 = (p : Int) → (∀ z, Mv y z (skp s p) → q (if nX s ≤ skp s p then 1 else 0) z) → M_X8_isAtEnd_0 q n y := by
  have hx := ok_x k
  induction n with
  | zero => intro p y a1 a2; omega
  | succ n ih =>
    intro p y a1 a2 ht hp hq
    have fin : ¬ (p < nX s ∧ s 8 p = 32) → M_X8_isAtEnd_38 q y := fun c => by
      rw [skp_n c] at hq
      have := hq y (Mv.rf hp)
      unfold M_X8_isAtEnd_38
      rw [ht.1, hp]
      refine ⟨fun d => ?_, fun d => ?_⟩
      · rw [if_neg (by omega)] at this; exact this
      · rw [if_pos (by omega)] at this; exact this
    unfold M_X8_isAtEnd_0
    rw [ht.1, hp]
    refine ⟨fun c => fin (by omega), fun c => ⟨⟨by omega, by omega⟩, ?_⟩⟩
    rw [Int.toNat_natCast, ht.2 p (by omega)]
    refine ⟨fun d => fin fun g => d g.2, fun d => ⟨rg1 (by omega), fun z ez => ?_⟩⟩
    have hz := Mv.up (p := p + 1) ez
    exact ih (p + 1) z (by omega) (by omega) (hz.tx ht) hz.2.2 fun w hw => by
      rw [← skp_y ⟨by omega, d⟩] at hw ⊢
      exact hq w (hz.tr hw)
theorem c_end {s y : XM} {p : Nat} {q : Int → XM → Prop} (k : Ok s) (a1 : p ≤ nX s) (ht : Tx s y) (hp : y 1 2 = (p : Int)) (hq : ∀ z, Mv y z (skp s p) → q (if nX s ≤ skp s p then 1 else 0) z) : M_X8_isAtEnd y q := by
  have hx := ok_x k
  have fin : ¬ (p < nX s ∧ s 8 p = 32) → M_X8_isAtEnd_38 q y := fun c => by
    rw [skp_n c] at hq
    have := hq y (Mv.rf hp)
    unfold M_X8_isAtEnd_38
    rw [ht.1, hp]
    refine ⟨fun d => ?_, fun d => ?_⟩
    · rw [if_neg (by omega)] at this; exact this
    · rw [if_pos (by omega)] at this; exact this
  unfold M_X8_isAtEnd
  rw [ht.1, hp]
  refine ⟨fun c => fin (by omega), fun c => ⟨⟨by omega, by omega⟩, ?_⟩⟩
  rw [Int.toNat_natCast, ht.2 p (by omega)]
  refine ⟨fun d => fin fun g => d g.2, fun d => ⟨rg1 (by omega), fun z ez => ?_⟩⟩
  have hz := Mv.up (p := p + 1) ez
  exact ⟨nX s + 1, c_end_0 k (nX s + 1) (p + 1) z (by omega) (by omega) (hz.tx ht) hz.2.2 fun w hw => by
    rw [← skp_y ⟨by omega, d⟩] at hw ⊢
    exact hq w (hz.tr hw)⟩
theorem c_fig {x : XM} {v : Int} {q : Int → Prop} (hq : q (if 48 ≤ v ∧ v ≤ 57 then 1 else 0)) : M_X8_isFigure x v q := by
  refine ⟨fun c => ?_, fun c => ⟨fun d => ?_, fun d => ?_⟩⟩
  · rw [if_neg (by omega)] at hq; exact hq
  · rw [if_neg (by omega)] at hq; exact hq
  · rw [if_pos (by omega)] at hq; exact hq
theorem c_num32 {s y0 : XM} {q : Int → XM → Prop} {kk m a : Nat} (k : Ok s) (hk : kk < 5) (hm : m < 4) (ha : a ≤ nX s) (hq0 : ¬ bad s (sI 3 (kk * 4 + m)) (sI 4 (kk * 4 + m)) a = true → ∀ z, Mv y0 z (dge s a) → q (vn s a) z) (hq1 : bad s (sI 3 (kk * 4 + m)) (sI 4 (kk * 4 + m)) a = true → ∀ z, Mv y0 z a → q (-2) z) (n : Nat) : ∀ (e : Nat) (y : XM) (v : Int), a ≤ e → e ≤ nX s → nX s < e + n → dge s e = dge s a → (∀ j, a ≤ j → j < e → fig s j = true) → Mv y0 y e → Tx s y → v = va s a (if e - a ≤ 4 then e - a else 4) → M_X8_readNumber_32 q n y (kk : Int) (m : Int) (a : Int) v := by
  have hx := ok_x k
  induction n with
  | zero => intro e y v a0 a1 a2; omega
  | succ n ih =>
    intro e y v a0 a1 a2 hd hf hy ht hv
    have hp := hy.2.2
    have fin : ¬ fig s e = true → M_X8_readNumber_101 q y (kk : Int) (m : Int) (a : Int) v := fun c => by
      rw [dge_n c] at hd
      unfold M_X8_readNumber_101
      rw [hp]
      refine ⟨⟨by omega, by omega⟩, fun d z ez => hq1 (bad_t.2 (Or.inl (by omega))) z (hy.tr (Mv.up ez)), fun d => ⟨⟨by omega, by omega⟩, ?_⟩⟩
      rw [show ((kk : Int) * 4 + (m : Int)).toNat = kk * 4 + m by omega]
      have e1 : v = vn s a := by
        unfold vn
        rw [hv, if_pos (by omega), hd]
      rw [e1]
      refine ⟨fun f z ez => hq1 (bad_t.2 (Or.inr (Or.inl f))) z (hy.tr (Mv.up ez)), fun f => ⟨⟨by omega, by omega⟩, fun g => hq0 (fun b => ?_) y (by rw [← hd]; exact hy), fun g z ez => hq1 (bad_t.2 (Or.inr (Or.inr (by omega)))) z (hy.tr (Mv.up ez))⟩⟩
      have := bad_t.1 b
      omega
    unfold M_X8_readNumber_32
    rw [ht.1, hp]
    refine ⟨fun c => fin fun g => by have := fig_t.1 g; omega, fun c => ⟨⟨by omega, by omega⟩, ?_⟩⟩
    rw [Int.toNat_natCast, ht.2 e (by omega)]
    refine c_fig ?_
    by_cases d : 48 ≤ s 8 e ∧ s 8 e ≤ 57
    · rw [if_pos d]
      have hfe : fig s e = true := fig_t.2 ⟨by omega, d⟩
      have hf' : ∀ j, a ≤ j → j < e + 1 → fig s j = true := fun j h1 h2 => by
        by_cases g : j = e
        · rw [g]; exact hfe
        · exact hf j h1 (by omega)
      refine iF (by decide) ⟨⟨by omega, by omega⟩, fun f => ⟨rg1 (by omega), fun z ez => ?_⟩, fun f => ⟨⟨by omega, by omega⟩, rg1 (by omega), fun z ez => ?_⟩⟩
      · have hz := Mv.up (p := e + 1) ez
        refine ih (e + 1) z v (by omega) (by omega) (by omega) (by rw [← dge_y hfe]; exact hd) hf' (hy.tr hz) (hz.tx ht) ?_
        rw [hv, if_neg (show ¬ e + 1 - a ≤ 4 by omega)]
        by_cases g : e - a ≤ 4
        · rw [if_pos g, show e - a = 4 by omega]
        · rw [if_neg g]
      · have hz := Mv.up (p := e + 1) ez
        rw [if_pos (by omega)] at hv
        have hb := va_b (s := s) (a := a) (c := e - a) (fun j hj => hf (a + j) (by omega) (by omega)) (by omega)
        rw [← hv] at hb
        refine ⟨⟨by omega, by omega⟩, ih (e + 1) z _ (by omega) (by omega) (by omega) (by rw [← dge_y hfe]; exact hd) hf' (hy.tr hz) (hz.tx ht) ?_⟩
        rw [if_pos (by omega), show e + 1 - a = (e - a) + 1 by omega]
        show _ = 10 * va s a (e - a) + s 8 (a + (e - a)) - 48
        rw [← hv, show a + (e - a) = e by omega]
        omega
    · rw [if_neg d]
      exact iT rfl (fin fun g => d (fig_t.1 g).2)
theorem c_number {s y : XM} {q : Int → XM → Prop} {kk m p : Nat} (k : Ok s) (hk : kk < 5) (hm : m < 4) (hpn : p ≤ nX s) (ht : Tx s y) (hp : y 1 2 = (p : Int)) (hq0 : nuC s (sI 3 (kk * 4 + m)) (sI 4 (kk * 4 + m)) 0 p = 0 → ∀ z, Mv y z (nuP s (sI 3 (kk * 4 + m)) (sI 4 (kk * 4 + m)) 0 p) → q (nuV s (sI 3 (kk * 4 + m)) (sI 4 (kk * 4 + m)) 0 p) z) (hq1 : ¬ nuC s (sI 3 (kk * 4 + m)) (sI 4 (kk * 4 + m)) 0 p = 0 → ∀ z, Mv y z (nuP s (sI 3 (kk * 4 + m)) (sI 4 (kk * 4 + m)) 0 p) → q (- nuC s (sI 3 (kk * 4 + m)) (sI 4 (kk * 4 + m)) 0 p) z) : M_X8_readNumber y (kk : Int) (m : Int) q := by
  have hx := ok_x k
  have hs := skp_p hpn
  refine c_end k hpn ht hp fun z hz => ?_
  have one : ¬ fig s (skp s p) = true → q (-1) z := fun c => by
    obtain ⟨e1, e2, _⟩ := nu_1 (lo := sI 3 (kk * 4 + m)) (hi := sI 4 (kk * 4 + m)) c
    rw [e1, e2] at hq1
    exact hq1 (by decide) z hz
  by_cases c : nX s ≤ skp s p
  · rw [if_pos c]
    exact jT (by decide) (one fun g => by have := fig_t.1 g; omega)
  · rw [if_neg c]
    refine jF rfl ?_
    have ht' := hz.tx ht
    rw [hz.2.2]
    refine ⟨⟨by omega, by omega⟩, ?_⟩
    rw [Int.toNat_natCast, ht'.2 _ (by omega)]
    refine c_fig ?_
    by_cases d : 48 ≤ s 8 (skp s p) ∧ s 8 (skp s p) ≤ 57
    · rw [if_pos d]
      have hf : fig s (skp s p) = true := fig_t.2 ⟨by omega, d⟩
      refine jT (by decide) ⟨nX s + 1, c_num32 k hk hm hs.2.1 (fun b w hw => ?_) (fun b w hw => ?_) (nX s + 1) (skp s p) z 0 (Nat.le_refl _) hs.2.1 (by omega) rfl (fun j h1 h2 => by omega) (Mv.rf hz.2.2) ht' ?_⟩
      · obtain ⟨e1, e2, e3⟩ := nu_0 hf b
        rw [e1, e2, e3] at hq0
        exact hq0 rfl w (hz.tr hw)
      · obtain ⟨e1, e2, e3⟩ := nu_2 hf b
        rw [e1, e2] at hq1
        exact hq1 (by decide) w (hz.tr hw)
      · rw [if_pos (by omega), Nat.sub_self]; rfl
    · rw [if_neg d]
      exact jF rfl (one fun g => d (fig_t.1 g).2)
