/-! ===== the reference's reader ===== -/
def Tm (s y : XM) : Prop := y 83 1 = (nX s : Int) ∧ ∀ j, j < nX s → jand (y 84 j) 255 = s 8 j
def Rw (y z : XM) (p : Nat) : Prop := (∀ k, k ≠ 83 → z k = y k) ∧ (∀ j, j ≠ 22 → z 83 j = y 83 j) ∧ z 83 22 = (p : Int)
def Rv (y z : XM) : Prop := (∀ k, k ≠ 83 → z k = y k) ∧ ∀ j, j ≠ 22 → j ≠ 23 → j ≠ 24 → z 83 j = y 83 j
def Rt (s z : XM) (c : Int) (p : Nat) : Prop := z 83 23 = c ∧ (c = 0 → z 83 22 = (p : Int) ∧ z 83 24 = -1) ∧ (¬ c = 0 → z 83 24 = (p : Int)) ∧ ∃ r : Nat, r ≤ nX s ∧ z 83 22 = (r : Int)
theorem Rw.tm {s y z : XM} {p : Nat} (h : Rw y z p) (t : Tm s y) : Tm s z := ⟨by rw [h.2.1 1 (by decide)]; exact t.1, fun j hj => by rw [h.1 84 (by decide)]; exact t.2 j hj⟩
theorem Rw.tr {x y z : XM} {p p' : Nat} (h : Rw x y p) (h' : Rw y z p') : Rw x z p' := ⟨fun k hk => by rw [h'.1 k hk, h.1 k hk], fun j hj => by rw [h'.2.1 j hj, h.2.1 j hj], h'.2.2⟩
theorem Rw.rf {y : XM} {p : Nat} (h : y 83 22 = (p : Int)) : Rw y y p := ⟨fun _ _ => rfl, fun _ _ => rfl, h⟩
theorem Rw.up {y z : XM} {p : Nat} (h : z = uX y 83 22 (p : Int)) : Rw y z p := ⟨fun k hk => by rw [h, uX_k hk], fun j hj => by rw [h, uX_j hj], by rw [h, uX_eq]⟩
theorem Rw.rv {y z : XM} {p : Nat} (h : Rw y z p) : Rv y z := ⟨h.1, fun j h1 _ _ => h.2.1 j h1⟩
theorem Rv.tm {s y z : XM} (h : Rv y z) (t : Tm s y) : Tm s z := ⟨by rw [h.2 1 (by decide) (by decide) (by decide)]; exact t.1, fun j hj => by rw [h.1 84 (by decide)]; exact t.2 j hj⟩
theorem Rv.tr {x y z : XM} (h : Rv x y) (h' : Rv y z) : Rv x z := ⟨fun k hk => by rw [h'.1 k hk, h.1 k hk], fun j h1 h2 h3 => by rw [h'.2 j h1 h2 h3, h.2 j h1 h2 h3]⟩
theorem Rv.rf {y : XM} : Rv y y := ⟨fun _ _ => rfl, fun _ _ _ _ => rfl⟩
theorem r_here {s y : XM} {p : Nat} {q : Int → Prop} (k : Ok s) (ht : Tm s y) (hp : y 83 22 = (p : Int)) (hq : q (if p < nX s then s 8 p else -1)) : M_X11_here y q := by
  have hx := ok_x k
  unfold M_X11_here
  rw [ht.1, hp]
  refine ⟨fun c => ?_, fun c => ⟨⟨by omega, by omega⟩, ?_⟩⟩
  · rw [if_neg (by omega)] at hq; exact hq
  · rw [if_pos (by omega)] at hq
    rw [Int.toNat_natCast, ht.2 p (by omega)]
    exact hq
theorem here_32 {s : XM} {p : Nat} : (if p < nX s then s 8 p else -1) = 32 ↔ (p < nX s ∧ s 8 p = 32) := by
  by_cases c : p < nX s
  · rw [if_pos c]; exact ⟨fun e => ⟨c, e⟩, fun e => e.2⟩
  · rw [if_neg c]; exact ⟨fun e => by omega, fun e => absurd e.1 c⟩
theorem r_skip_0 {s : XM} {q : XM → Prop} (k : Ok s) (n : Nat) : ∀ (p : Nat) (y : XM), p ≤ nX s → nX s < p + n → Tm s y → y 83 22 = (p : Int) → (∀ z, Rw y z (skp s p) → q z) → M_X11_skip_0 q n y := by
  have hx := ok_x k
  induction n with
  | zero => intro p y a1 a2; omega
  | succ n ih =>
    intro p y a1 a2 ht hp hq
    unfold M_X11_skip_0
    refine r_here k ht hp ⟨fun c => ?_, fun c => ?_⟩
    · rw [skp_n (fun g => c (here_32.2 g))] at hq
      exact hq y (Rw.rf hp)
    · have g := here_32.1 c
      rw [hp]
      refine ⟨rg1 (by omega), fun z ez => ?_⟩
      have hz := Rw.up (p := p + 1) ez
      refine ih (p + 1) z (by omega) (by omega) (hz.tm ht) hz.2.2 fun w hw => ?_
      rw [← skp_y g] at hw
      exact hq w (hz.tr hw)
theorem r_skip {s y : XM} {p : Nat} {q : XM → Prop} (k : Ok s) (a1 : p ≤ nX s) (ht : Tm s y) (hp : y 83 22 = (p : Int)) (hq : ∀ z, Rw y z (skp s p) → q z) : M_X11_skip y q := by
  have hx := ok_x k
  refine r_here k ht hp ⟨fun c => ?_, fun c => ?_⟩
  · rw [skp_n (fun g => c (here_32.2 g))] at hq
    exact hq y (Rw.rf hp)
  · have g := here_32.1 c
    rw [hp]
    refine ⟨rg1 (by omega), fun z ez => ?_⟩
    have hz := Rw.up (p := p + 1) ez
    refine ⟨nX s + 1, r_skip_0 k (nX s + 1) (p + 1) z (by omega) (by omega) (hz.tm ht) hz.2.2 fun w hw => ?_⟩
    rw [← skp_y g] at hw
    exact hq w (hz.tr hw)
theorem r_isFig {s y : XM} {p : Nat} {q : Int → Prop} (k : Ok s) (ht : Tm s y) (hp : y 83 22 = (p : Int)) (hq : q (if fig s p = true then 1 else 0)) : M_X11_isFigure y q := by
  refine r_here k ht hp (r_in ?_)
  by_cases c : fig s p = true
  · have := fig_t.1 c
    rw [if_pos c] at hq
    rw [if_pos this.1, if_pos this.2]
    exact ⟨Or.inr rfl, hq⟩
  · rw [if_neg c] at hq
    rw [if_neg (show ¬ (48 ≤ (if p < nX s then s 8 p else -1) ∧ (if p < nX s then s 8 p else -1) ≤ 57) from fun g => ?_)]
    · exact ⟨Or.inl rfl, hq⟩
    · by_cases d : p < nX s
      · rw [if_pos d] at g
        exact c (fig_t.2 ⟨d, g⟩)
      · rw [if_neg d] at g
        omega
theorem r_fail {s y : XM} {c : Int} {p r : Nat} {q : XM → Prop} (h0 : y 83 23 = 0) (hc : ¬ c = 0) (hr : r ≤ nX s) (hp : y 83 22 = (r : Int)) (hq : ∀ z, Rv y z → Rt s z c p → q z) : M_X11_fail y c (p : Int) q := by
  unfold M_X11_fail
  refine jF h0 fun x2 e2 x3 e3 => hq x3 ⟨fun k hk => by rw [e3, uX_k hk, e2, uX_k hk], fun j _ h2 h3 => by rw [e3, uX_j h3, e2, uX_j h2]⟩ ⟨by rw [e3, uX_j (by decide), e2, uX_eq], fun e => absurd e hc, fun _ => by rw [e3, uX_eq], r, hr, by rw [e3, uX_j (by decide), e2, uX_j (by decide)]; exact hp⟩
theorem r_num39 {s y0 : XM} {q : Int → XM → Prop} {lo hi : Int} {a : Nat} (k : Ok s) (ha : a ≤ nX s) (h0 : y0 83 23 = 0) (hq0 : ¬ bad s lo hi a = true → ∀ z, Rw y0 z (dge s a) → q (vn s a) z) (hq1 : bad s lo hi a = true → ∀ z, Rv y0 z → Rt s z 2 a → q lo z) (n : Nat) : ∀ (e : Nat) (y : XM) (v : Int), a ≤ e → e ≤ nX s → nX s < e + n → dge s e = dge s a → (∀ j, a ≤ j → j < e → fig s j = true) → Rw y0 y e → Tm s y → v = va s a (if e - a ≤ 3 then e - a else 3) → M_X11_number_39 q n y lo hi (a : Int) v := by
  have hx := ok_x k
  induction n with
  | zero => intro e y v a0 a1 a2; omega
  | succ n ih =>
    intro e y v a0 a1 a2 hd hf hy ht hv
    have hp := hy.2.2
    have fl : bad s lo hi a = true → M_X11_number_109 q y lo (a : Int) := fun b => r_fail (s := s) (by rw [hy.2.1 23 (by decide)]; exact h0) (by decide) a1 hp fun z rv rt => hq1 b z (hy.rv.tr rv) rt
    unfold M_X11_number_39
    refine r_isFig k ht hp ?_
    rw [hp]
    by_cases d : fig s e = true
    · rw [if_pos d]
      have hfe := fig_t.1 d
      have hf' : ∀ j, a ≤ j → j < e + 1 → fig s j = true := fun j h1 h2 => by
        by_cases g : j = e
        · rw [g]; exact d
        · exact hf j h1 (by omega)
      have next : ∀ v', v' = va s a (if e + 1 - a ≤ 3 then e + 1 - a else 3) → M_X11_number_74 q (M_X11_number_39 q n) y lo hi (a : Int) v' := fun v' hv' => by
        unfold M_X11_number_74
        rw [hp]
        refine ⟨rg1 (by omega), fun z ez => ?_⟩
        have hz := Rw.up (p := e + 1) ez
        exact ih (e + 1) z v' (by omega) (by omega) (by omega) (by rw [← dge_y d]; exact hd) hf' (hy.tr hz) (hz.tm ht) hv'
      refine iF (by decide) ⟨⟨by omega, by omega⟩, fun f => next v ?_, fun f => r_here k ht hp ?_⟩
      · rw [hv, if_neg (show ¬ e + 1 - a ≤ 3 by omega)]
        by_cases g : e - a ≤ 3
        · rw [if_pos g, show e - a = 3 by omega]
        · rw [if_neg g]
      · rw [if_pos hfe.1]
        rw [if_pos (by omega)] at hv
        have hb := va_b (s := s) (a := a) (c := e - a) (fun j hj => hf (a + j) (by omega) (by omega)) (by omega)
        rw [← hv] at hb
        refine ⟨⟨by omega, by omega⟩, next _ ?_⟩
        rw [if_pos (by omega), show e + 1 - a = (e - a) + 1 by omega]
        show _ = 10 * va s a (e - a) + s 8 (a + (e - a)) - 48
        rw [← hv, show a + (e - a) = e by omega]
    · rw [if_neg d]
      rw [dge_n d] at hd
      refine iT rfl ⟨⟨by omega, by omega⟩, fun f => fl (bad_t.2 (Or.inl (by omega))), fun f => r_in ?_⟩
      have e1 : v = vn s a := by
        unfold vn
        rw [hv, if_pos (by omega), hd]
      rw [e1]
      by_cases g : lo ≤ vn s a ∧ vn s a ≤ hi
      · rw [if_pos g]
        refine jT (by decide) (hq0 (fun b => ?_) y (by rw [← hd]; exact hy))
        have := bad_t.1 b
        omega
      · rw [if_neg g]
        exact jF rfl (fl (bad_t.2 (by omega)))
theorem r_number {s y : XM} {q : Int → XM → Prop} {lo hi c : Int} {p : Nat} (k : Ok s) (hpn : p ≤ nX s) (ht : Tm s y) (hR : Rt s y c p) (hq : ∀ z, Rv y z → Rt s z (nuC s lo hi c p) (nuP s lo hi c p) → q (nuV s lo hi c p) z) : M_X11_number y lo hi q := by
  have hx := ok_x k
  have hs := skp_p hpn
  unfold M_X11_number
  rw [hR.1]
  refine ⟨fun e => ?_, fun e => ?_⟩
  · subst e
    obtain ⟨hp, h24⟩ := hR.2.1 rfl
    refine r_skip k hpn ht hp fun z hz => r_isFig k (hz.tm ht) hz.2.2 ?_
    have z23 : z 83 23 = 0 := by rw [hz.2.1 23 (by decide)]; exact hR.1
    by_cases f : fig s (skp s p) = true
    · rw [if_pos f, hz.2.2]
      refine jT (by decide) ⟨nX s + 1, r_num39 k hs.2.1 z23 (fun b w hw => ?_) (fun b w rv rt => ?_) (nX s + 1) (skp s p) z 0 (Nat.le_refl _) hs.2.1 (by omega) rfl (fun j h1 h2 => by omega) (Rw.rf hz.2.2) (hz.tm ht) ?_⟩
      · obtain ⟨e1, e2, e3⟩ := nu_0 f b
        rw [e1, e2, e3] at hq
        have hzw := hz.tr hw
        exact hq w hzw.rv ⟨by rw [hzw.2.1 23 (by decide)]; exact hR.1, fun _ => ⟨hw.2.2, by rw [hzw.2.1 24 (by decide)]; exact h24⟩, fun g => absurd rfl g, _, (dge_p hs.2.1).2.1, hw.2.2⟩
      · obtain ⟨e1, e2, e3⟩ := nu_2 f b
        rw [e1, e2, e3] at hq
        exact hq w (hz.rv.tr rv) rt
      · rw [if_pos (by omega), Nat.sub_self]; rfl
    · rw [if_neg f, hz.2.2]
      obtain ⟨e1, e2, e3⟩ := nu_1 (lo := lo) (hi := hi) f
      rw [e1, e2, e3] at hq
      exact jF rfl (r_fail (s := s) z23 (by decide) hs.2.1 hz.2.2 fun w rv rt => hq w (hz.rv.tr rv) rt)
  · obtain ⟨e1, e2, e3⟩ := nu_s (s := s) (lo := lo) (hi := hi) (p := p) e
    rw [e1, e2, e3] at hq
    exact hq y Rv.rf hR
theorem r_endm {s y : XM} {q : XM → Prop} {c : Int} {p : Nat} (k : Ok s) (hpn : p ≤ nX s) (ht : Tm s y) (hR : Rt s y c p) (hq : ∀ z, Rv y z → Rt s z (eC s c p) (eP s c p) → q z) : M_X11_end y q := by
  have hx := ok_x k
  have hs := skp_p hpn
  unfold M_X11_end
  rw [hR.1]
  refine ⟨fun e => ?_, fun e => ?_⟩
  · subst e
    obtain ⟨hp, h24⟩ := hR.2.1 rfl
    refine r_skip k hpn ht hp fun z hz => r_here k (hz.tm ht) hz.2.2 ?_
    have z23 : z 83 23 = 0 := by rw [hz.2.1 23 (by decide)]; exact hR.1
    have e59 : (if skp s p < nX s then s 8 (skp s p) else -1) = 59 ↔ (skp s p < nX s ∧ s 8 (skp s p) = 59) := by
      by_cases c : skp s p < nX s
      · rw [if_pos c]; exact ⟨fun e => ⟨c, e⟩, fun e => e.2⟩
      · rw [if_neg c]; exact ⟨fun e => by omega, fun e => absurd e.1 c⟩
    rw [hz.2.2]
    refine ⟨fun g => ?_, fun g => ⟨rg1 (by omega), fun w ew => ?_⟩⟩
    · obtain ⟨e1, e2⟩ := e_n (fun h => g (e59.2 h))
      rw [e1, e2] at hq
      exact r_fail (s := s) z23 (by decide) hs.2.1 hz.2.2 fun w rv rt => hq w (hz.rv.tr rv) rt
    · have g' := e59.1 g
      obtain ⟨e1, e2⟩ := e_y g'
      rw [e1, e2] at hq
      have hzw := hz.tr (Rw.up (p := skp s p + 1) ew)
      exact hq w hzw.rv ⟨by rw [hzw.2.1 23 (by decide)]; exact hR.1, fun _ => ⟨hzw.2.2, by rw [hzw.2.1 24 (by decide)]; exact h24⟩, fun g => absurd rfl g, _, by omega, hzw.2.2⟩
  · obtain ⟨e1, e2⟩ := e_s (s := s) (p := p) e
    rw [e1, e2] at hq
    exact hq y Rv.rf hR
