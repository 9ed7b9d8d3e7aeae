/-! ===== the class reads a telling ===== -/
def Cq (c1 : Int) (x y : XM) : Prop := (∀ k, k ≠ 1 → k ≠ tid c1 + 1 → k ≠ tid c1 + 2 → y k = x k) ∧ ∀ j, j ≠ 2 → y 1 j = x 1 j
def Rd (c1 : Int) (x y : XM) (p : Nat) (C : Nat → Nat) (D : Nat → Int) : Prop := Cq c1 x y ∧ y 1 2 = (p : Int) ∧ (∀ j, j < 5 → y (tid c1 + 1) j = (C j : Int)) ∧ ∀ j, y (tid c1 + 2) j = D j
theorem Cq.tx {s x y : XM} {c1 : Int} (h : Cq c1 x y) (t : Tx s x) : Tx s y := by
  have := tid_c c1
  exact ⟨by rw [h.2 1 (by decide)]; exact t.1, fun j hj => by rw [h.1 2 (by decide) (by omega) (by omega)]; exact t.2 j hj⟩
theorem Cq.mv {x y z : XM} {c1 : Int} {p : Nat} (h : Cq c1 x y) (m : Mv y z p) : Cq c1 x z := ⟨fun k h1 h2 h3 => by rw [m.1 k h1, h.1 k h1 h2 h3], fun j hj => by rw [m.2.1 j hj, h.2 j hj]⟩
theorem Rd.mv {x y z : XM} {c1 : Int} {p p' : Nat} {C : Nat → Nat} {D : Nat → Int} (h : Rd c1 x y p C D) (m : Mv y z p') : Rd c1 x z p' C D := by
  have := tid_c c1
  exact ⟨h.1.mv m, m.2.2, fun j hj => by rw [m.1 _ (by omega)]; exact h.2.2.1 j hj, fun j => by rw [m.1 _ (by omega)]; exact h.2.2.2 j⟩
theorem e_y {s : XM} {p : Nat} (h : skp s p < nX s ∧ s 8 (skp s p) = 59) : eC s 0 p = 0 ∧ eP s 0 p = skp s p + 1 := by
  unfold eC eP
  refine ⟨?_, ?_⟩ <;> rw [if_neg (show ¬ ¬ (0 : Int) = 0 by decide), if_pos h]
theorem e_n {s : XM} {p : Nat} (h : ¬ (skp s p < nX s ∧ s 8 (skp s p) = 59)) : eC s 0 p = 1 ∧ eP s 0 p = skp s p := by
  unfold eC eP
  refine ⟨?_, ?_⟩ <;> rw [if_neg (show ¬ ¬ (0 : Int) = 0 by decide), if_neg h]
theorem e_s {s : XM} {c : Int} {p : Nat} (h : ¬ c = 0) : eC s c p = c ∧ eP s c p = p := ⟨if_pos h, if_pos h⟩
theorem cC_s {s : XM} {k p m : Nat} (hm : m ≤ tnk k) (h : ¬ (sq s k p m).1 = 0) : cC s k p = (sq s k p m).1 ∧ cP s k p = (sq s k p m).2 := by
  have e := sq_s h (tnk k - m)
  rw [show m + (tnk k - m) = tnk k by omega] at e
  unfold cC cP
  rw [e]
  exact e_s h
theorem nuC_r {s : XM} {lo hi : Int} {p : Nat} : nuC s lo hi 0 p = 0 ∨ nuC s lo hi 0 p = 1 ∨ nuC s lo hi 0 p = 2 := by
  by_cases f : fig s (skp s p) = true
  · by_cases b : bad s lo hi (skp s p) = true
    · exact Or.inr (Or.inr (nu_2 f b).1)
    · exact Or.inl (nu_0 f b).1
  · exact Or.inr (Or.inl (nu_1 f).1)
theorem upD_s {D : Nat → Int} {b m j : Nat} {v : Nat → Int} : upD D b (m + 1) v j = if j = b + m then v m else upD D b m v j := by
  unfold upD
  by_cases c : j = b + m
  · rw [if_pos c, if_pos (by omega), show j - b = m by omega]
  · rw [if_neg c]
    by_cases d : b ≤ j ∧ j < b + m
    · rw [if_pos d, if_pos (by omega)]
    · rw [if_neg d, if_neg (by omega)]
theorem c_clause66 {s x : XM} {c1 : Int} {q : Int → XM → Prop} {kk p0 : Nat} {C : Nat → Nat} {D : Nat → Int} (k : Ok s) (ht : Tx s x) (hk : kk < 5) (hp0 : p0 ≤ nX s) (hC : C kk < tmx kk) (hq0 : cC s kk p0 = 0 → ∀ z, Rd c1 x z (cP s kk p0) (upC C kk) (upD D (4 * (tbk kk + C kk)) (tnk kk) (vq s kk p0)) → q 0 z) (hq1 : ¬ cC s kk p0 = 0 → ∀ z, Cq c1 x z → z 1 2 = (cP s kk p0 : Int) → q (cC s kk p0) z) (n : Nat) : ∀ (m : Nat) (y : XM), m ≤ tnk kk → tnk kk < m + n → (sq s kk p0 m).1 = 0 → Rd c1 x y (sq s kk p0 m).2 C (upD D (4 * (tbk kk + C kk)) m (vq s kk p0)) → M_X8_readClause_66 c1 q n y (kk : Int) (C kk : Int) (m : Int) := by
  have hx := ok_x k
  have htd := tid_c c1
  obtain ⟨t0, t1, t2, t3, t4, t5⟩ := sI_tab kk hk
  induction n with
  | zero => intro m y a1 a2; omega
  | succ n ih =>
    intro m y a1 a2 hz hy
    have hb := sq_b (k := kk) hp0 m
    have hty := hy.1.tx ht
    unfold M_X8_readClause_66
    rw [Int.toNat_natCast, t2]
    refine ⟨⟨by omega, by omega⟩, fun c => ?_, fun c => ?_⟩
    · have em : m = tnk kk := by omega
      have cc : cC s kk p0 = eC s 0 (sq s kk p0 m).2 := by unfold cC; rw [← em, hz]
      have cp : cP s kk p0 = eP s 0 (sq s kk p0 m).2 := by unfold cP; rw [← em, hz]
      refine c_end k hb.2 hty hy.2.1 fun z mz => ?_
      have hs := skp_p hb.2
      have hrz := hy.mv mz
      have bad1 : ¬ (skp s (sq s kk p0 m).2 < nX s ∧ s 8 (skp s (sq s kk p0 m).2) = 59) → q 1 z := fun g => by
        have := e_n g
        rw [cc, cp, this.1, this.2] at hq1
        exact hq1 (by decide) z hrz.1 mz.2.2
      by_cases d : nX s ≤ skp s (sq s kk p0 m).2
      · rw [if_pos d]
        exact jT (by decide) (bad1 (by omega))
      · rw [if_neg d, mz.2.2]
        refine jF rfl ⟨⟨by omega, by omega⟩, ?_⟩
        rw [Int.toNat_natCast, (mz.tx hty).2 _ (by omega)]
        refine ⟨fun f => ⟨rg1 (by omega), fun w ew => ?_⟩, fun f => bad1 fun g => f g.2⟩
        have hw := Mv.up (p := skp s (sq s kk p0 m).2 + 1) ew
        have hrw := hrz.mv hw
        rw [hrw.2.2.1 kk hk]
        have hmx : C kk < 12 := by have : ∀ k, k < 5 → tmx k ≤ 12 := by decide
                                   have := this kk hk
                                   omega
        refine ⟨⟨by omega, by omega⟩, rg1 (by omega), ⟨by omega, by omega⟩, fun u eu => ?_⟩
        have ee := e_y ⟨by omega, f⟩
        rw [cc, cp, ee.1, ee.2] at hq0
        rw [← em] at hq0
        refine hq0 rfl u ⟨⟨fun k h1 h2 h3 => by rw [eu, uX_k h2]; exact hrw.1.1 k h1 h2 h3, fun j hj => by rw [eu, uX_k (by omega)]; exact hrw.1.2 j hj⟩, by rw [eu, uX_k (by omega)]; exact hw.2.2, fun j hj => ?_, fun j => by rw [eu, uX_k (by omega)]; exact hrw.2.2.2 j⟩
        rw [eu, uX_at]
        unfold upC
        by_cases g : j = kk
        · rw [if_pos g, if_pos g, g]; rfl
        · rw [if_neg g, if_neg g]; exact hrw.2.2.1 j hj
    · have s1 : (sq s kk p0 (m + 1)).1 = nuC s (sI 3 (kk * 4 + m)) (sI 4 (kk * 4 + m)) 0 (sq s kk p0 m).2 := by
        show nuC s _ _ (sq s kk p0 m).1 _ = _
        rw [hz]
      have s2 : (sq s kk p0 (m + 1)).2 = nuP s (sI 3 (kk * 4 + m)) (sI 4 (kk * 4 + m)) 0 (sq s kk p0 m).2 := by
        show nuP s _ _ (sq s kk p0 m).1 _ = _
        rw [hz]
      have s3 : vq s kk p0 m = nuV s (sI 3 (kk * 4 + m)) (sI 4 (kk * 4 + m)) 0 (sq s kk p0 m).2 := by
        unfold vq
        rw [hz]
      have hlo := sI_lo (kk * 4 + m) (by omega)
      refine c_number k hk (by omega) hb.2 hty hy.2.1 (fun e z mz => ?_) (fun e z mz => ?_)
      · have hv := nuV_b (s := s) (c := 0) (p := (sq s kk p0 m).2) hlo.2.1
        rw [← s3] at hv ⊢
        refine iT (by omega) ?_
        refine ⟨⟨by omega, by omega⟩, ?_⟩
        rw [Int.toNat_natCast, t1, show ((((tbk kk : Nat) : Int) + (C kk : Int)) * 4 + (m : Int)).toNat = 4 * (tbk kk + C kk) + m by omega]
        refine ⟨⟨by omega, by omega⟩, fun w ew => ⟨rg1 (by omega), ih (m + 1) w (by omega) (by omega) (by rw [s1]; exact e) ?_⟩⟩
        rw [← s2] at mz
        have hrz := hy.mv mz
        refine ⟨⟨fun k h1 h2 h3 => by rw [ew, uX_k h3]; exact hrz.1.1 k h1 h2 h3, fun j hj => by rw [ew, uX_k (by omega)]; exact hrz.1.2 j hj⟩, by rw [ew, uX_k (by omega)]; exact mz.2.2, fun j hj => by rw [ew, uX_k (by omega)]; exact hrz.2.2.1 j hj, fun j => ?_⟩
        rw [ew, uX_at, upD_s]
        by_cases g : j = 4 * (tbk kk + C kk) + m
        · rw [if_pos g, if_pos g]
        · rw [if_neg g, if_neg g]; exact hrz.2.2.2 j
      · have cs := cC_s (s := s) (k := kk) (p := p0) (m := m + 1) (by omega) (by rw [s1]; exact e)
        rw [s1, s2] at cs
        have hr := nuC_r (s := s) (lo := sI 3 (kk * 4 + m)) (hi := sI 4 (kk * 4 + m)) (p := (sq s kk p0 m).2)
        refine iF (by omega) ⟨⟨by omega, by omega⟩, ?_⟩
        rw [Int.neg_neg]
        rw [cs.1, cs.2] at hq1
        exact hq1 e z (hy.mv mz).1 mz.2.2
theorem ch_t : ∀ v : Nat, v < 256 → ji2c (v : Int) = (v : Int) ∧ (ji2b (v : Int) = 116 ↔ v = 116) ∧ (ji2b (v : Int) = 98 ↔ v = 98) ∧ (ji2b (v : Int) = 114 ↔ v = 114) ∧ (ji2b (v : Int) = 117 ↔ v = 117) ∧ (ji2b (v : Int) = 110 ↔ v = 110) := by decide +kernel
theorem c_ix {x : XM} {v : Nat} {q : Int → Prop} (hv : v < 256) (hq : q (if kd (v : Int) = 5 then -1 else (kd (v : Int) : Int))) : M_J0_indexOf_0f7a4 x (ji2c (v : Int)) q := by
  obtain ⟨e0, e1, e2, e3, e4, e5⟩ := ch_t v hv
  rw [e0]
  refine ⟨rfl, ?_⟩
  refine ⟨fun c => by omega, fun _ => ⟨fun c => by omega, fun _ => jT (by decide) (s_max (s_min ?_))⟩⟩
  show ((0 : Int) < 5 → M_J1_indexOfChar_4cfef x (v : Int) 0 5 _) ∧ _
  refine iT (by decide) ⟨6, ?_⟩
  unfold kd at hq
  unfold M_J1_indexOfChar_4cfef_7
  refine iF (by decide) ⟨by decide, ?_⟩
  show (¬ (116 : Int) = ji2b (v : Int) → _) ∧ ((116 : Int) = ji2b (v : Int) → _)
  refine ⟨fun d1 => ⟨⟨by decide, by decide⟩, ?_⟩, fun d => by rw [if_pos (show (v : Int) = 116 by have := e1.1 d.symm; omega)] at hq; exact hq⟩
  rw [if_neg (show ¬ (v : Int) = 116 from fun g => d1 (e1.2 (by omega)).symm)] at hq
  unfold M_J1_indexOfChar_4cfef_7
  refine iF (by decide) ⟨by decide, ?_⟩
  show (¬ (98 : Int) = ji2b (v : Int) → _) ∧ ((98 : Int) = ji2b (v : Int) → _)
  refine ⟨fun d2 => ⟨⟨by decide, by decide⟩, ?_⟩, fun d => by rw [if_pos (show (v : Int) = 98 by have := e2.1 d.symm; omega)] at hq; exact hq⟩
  rw [if_neg (show ¬ (v : Int) = 98 from fun g => d2 (e2.2 (by omega)).symm)] at hq
  unfold M_J1_indexOfChar_4cfef_7
  refine iF (by decide) ⟨by decide, ?_⟩
  show (¬ (114 : Int) = ji2b (v : Int) → _) ∧ ((114 : Int) = ji2b (v : Int) → _)
  refine ⟨fun d3 => ⟨⟨by decide, by decide⟩, ?_⟩, fun d => by rw [if_pos (show (v : Int) = 114 by have := e3.1 d.symm; omega)] at hq; exact hq⟩
  rw [if_neg (show ¬ (v : Int) = 114 from fun g => d3 (e3.2 (by omega)).symm)] at hq
  unfold M_J1_indexOfChar_4cfef_7
  refine iF (by decide) ⟨by decide, ?_⟩
  show (¬ (117 : Int) = ji2b (v : Int) → _) ∧ ((117 : Int) = ji2b (v : Int) → _)
  refine ⟨fun d4 => ⟨⟨by decide, by decide⟩, ?_⟩, fun d => by rw [if_pos (show (v : Int) = 117 by have := e4.1 d.symm; omega)] at hq; exact hq⟩
  rw [if_neg (show ¬ (v : Int) = 117 from fun g => d4 (e4.2 (by omega)).symm)] at hq
  unfold M_J1_indexOfChar_4cfef_7
  refine iF (by decide) ⟨by decide, ?_⟩
  show (¬ (110 : Int) = ji2b (v : Int) → _) ∧ ((110 : Int) = ji2b (v : Int) → _)
  refine ⟨fun d5 => ⟨⟨by decide, by decide⟩, ?_⟩, fun d => by rw [if_pos (show (v : Int) = 110 by have := e5.1 d.symm; omega)] at hq; exact hq⟩
  rw [if_neg (show ¬ (v : Int) = 110 from fun g => d5 (e5.2 (by omega)).symm)] at hq
  unfold M_J1_indexOfChar_4cfef_7
  exact iT (by decide) hq
theorem kd_b (z : Int) : kd z ≤ 5 := by
  unfold kd
  repeat' split
  all_goals decide
theorem c_clause {s x y : XM} {c1 : Int} {q : Int → XM → Prop} {p : Nat} {C : Nat → Nat} {D : Nat → Int} (k : Ok s) (ht : Tx s x) (hp : p < nX s) (hC : ∀ j, j < 5 → C j ≤ tmx j) (hy : Rd c1 x y p C D)
    (hA : (kd (s 8 p) = 5 ∨ (¬ kd (s 8 p) = 0 ∧ C 0 = 0)) → q 1 y)
    (hB : ¬ (kd (s 8 p) = 5 ∨ (¬ kd (s 8 p) = 0 ∧ C 0 = 0)) → tmx (kd (s 8 p)) ≤ C (kd (s 8 p)) → q 3 y)
    (hq0 : ¬ (kd (s 8 p) = 5 ∨ (¬ kd (s 8 p) = 0 ∧ C 0 = 0)) → ¬ tmx (kd (s 8 p)) ≤ C (kd (s 8 p)) → cC s (kd (s 8 p)) (p + 1) = 0 → ∀ z, Rd c1 x z (cP s (kd (s 8 p)) (p + 1)) (upC C (kd (s 8 p))) (upD D (4 * (tbk (kd (s 8 p)) + C (kd (s 8 p)))) (tnk (kd (s 8 p))) (vq s (kd (s 8 p)) (p + 1))) → q 0 z)
    (hq1 : ¬ (kd (s 8 p) = 5 ∨ (¬ kd (s 8 p) = 0 ∧ C 0 = 0)) → ¬ tmx (kd (s 8 p)) ≤ C (kd (s 8 p)) → ¬ cC s (kd (s 8 p)) (p + 1) = 0 → ∀ z, Cq c1 x z → z 1 2 = (cP s (kd (s 8 p)) (p + 1) : Int) → q (cC s (kd (s 8 p)) (p + 1)) z) : M_X8_readClause c1 y q := by
  have hx := ok_x k
  have hc := ok_t k hp
  have hty := hy.1.tx ht
  have hm : ∀ k, k < 5 → tmx k ≤ 12 := by decide
  unfold M_X8_readClause
  rw [hy.2.1, Int.toNat_natCast, hty.2 p hp]
  refine ⟨⟨by omega, by omega⟩, ?_⟩
  obtain ⟨v, hv⟩ : ∃ v : Nat, s 8 p = (v : Int) := ⟨(s 8 p).toNat, by omega⟩
  rw [hv]
  refine c_ix (by omega) ?_
  rw [← hv]
  have hkb := kd_b (s 8 p)
  generalize kd (s 8 p) = kk at *
  have go : ¬ (kk = 5 ∨ (¬ kk = 0 ∧ C 0 = 0)) → M_X8_readClause_35 c1 q y (kk : Int) := fun hn => by
    have hk : kk < 5 := by omega
    have hck := hC kk hk
    have hmk := hm kk hk
    unfold M_X8_readClause_35
    rw [Int.toNat_natCast, hy.2.2.1 kk hk, (sI_tab kk hk).1, hy.2.1]
    refine ⟨⟨by omega, by omega⟩, ⟨by omega, by omega⟩, fun f => ⟨rg1 (by omega), fun z ez => ?_⟩, fun f => hB hn (by omega)⟩
    have mz := Mv.up (p := p + 1) ez
    have hrz := hy.mv mz
    refine ⟨tnk kk + 1, c_clause66 k ht hk (by omega) (by omega) (hq0 hn (by omega)) (hq1 hn (by omega)) (tnk kk + 1) 0 z (by omega) (by omega) rfl ?_⟩
    refine ⟨hrz.1, hrz.2.1, hrz.2.2.1, fun j => ?_⟩
    rw [hrz.2.2.2 j]
    unfold upD
    rw [if_neg (by omega)]
  by_cases c : kk = 5
  · rw [if_pos c]
    exact iT (by decide) (hA (Or.inl c))
  · rw [if_neg c, hy.2.2.1 0 (by decide)]
    refine iF (by omega) ⟨fun d => go (by omega), fun d => ⟨fun e => go (by omega), fun e => hA (Or.inr ⟨by omega, by omega⟩)⟩⟩
theorem tid_ne (c : Int) : tid c + 2 ≠ 1 ∧ tid c + 1 ≠ 1 := by
  have := tid_c c
  omega
theorem c_into13 {s x : XM} {c1 : Int} {q : Int → XM → Prop} (k : Ok s) (ht : Tx s x) (f : Nat) : ∀ (p : Nat) (C : Nat → Nat) (D : Nat → Int) (y : XM) (v : Nat), p ≤ nX s → nX s < p + f → v ≤ p → (∀ j, j < 5 → C j ≤ tmx j) → Rd c1 x y p C D → ((pr s f p C D).1 = 0 → ∀ z, Rd c1 x z (pr s f p C D).2.1 (pr s f p C D).2.2.1 (pr s f p C D).2.2.2 → q 0 z) → (¬ (pr s f p C D).1 = 0 → ∀ z, Cq c1 x z → z 1 2 = ((pr s f p C D).2.1 : Int) → q (pr s f p C D).1 z) → M_X8_readInto_13 c1 q (f + 1) y 0 (v : Int) := by
  have hx := ok_x k
  induction f with
  | zero => intro p C D y v a1 a2; omega
  | succ f ih =>
    intro p C D y v a1 a2 a3 hC hy hq0 hq1
    have hs := skp_p a1
    unfold M_X8_readInto_13
    refine ⟨fun c => ?_, fun c => jF rfl ?_⟩
    · have e : skp s p = p := skp_n (by omega)
      unfold pr at hq0
      rw [if_pos (by omega), e] at hq0
      exact hq0 rfl y hy
    · refine c_end k a1 (hy.1.tx ht) hy.2.1 fun z mz => ?_
      have hrz := hy.mv mz
      unfold pr at hq0 hq1
      by_cases d : nX s ≤ skp s p
      · rw [if_pos d] at hq0 ⊢
        exact jT (by decide) (hq0 rfl z hrz)
      · rw [if_neg d] at hq0 hq1 ⊢
        have out : ∀ (c : Int) (w : XM), ¬ c = 0 → q c w → M_X8_readInto_13 c1 q (f + 1) w c ((v : Int) + 1) := fun c w h0 h1 => by
          unfold M_X8_readInto_13
          exact ⟨fun _ => h1, fun _ => jT h0 h1⟩
        refine jF rfl (c_clause k ht (by omega) hC hrz (fun hA => ?_) (fun hA hB => ?_) (fun hA hB e w hw => ?_) (fun hA hB e w hw hp => ?_))
        · rw [if_pos hA] at hq1
          exact ⟨rg1 (by omega), out 1 z (by decide) (hq1 (show ¬ (1 : Int) = 0 by decide) z hrz.1 hrz.2.1)⟩
        · rw [if_neg hA, if_pos hB] at hq1
          exact ⟨rg1 (by omega), out 3 z (by decide) (hq1 (show ¬ (3 : Int) = 0 by decide) z hrz.1 hrz.2.1)⟩
        · rw [if_neg hA, if_neg hB, if_pos e] at hq0 hq1
          have hcb := cP_b (k := kd (s 8 (skp s p))) (s := s) (p := skp s p + 1) (by omega)
          refine ⟨rg1 (by omega), ih _ _ _ w (v + 1) hcb.2 (by omega) (by omega) (fun j hj => ?_) hw hq0 hq1⟩
          unfold upC
          by_cases g : j = kd (s 8 (skp s p))
          · rw [if_pos g, g]; omega
          · rw [if_neg g]; exact hC j hj
        · rw [if_neg hA, if_neg hB, if_neg e] at hq1
          exact ⟨rg1 (by omega), out _ w e (hq1 e w hw hp)⟩
theorem c_clear2 {x : XM} {c1 : Int} {q : XM → Prop} (hq : ∀ y, (∀ k, k ≠ tid c1 + 1 → y k = x k) → (∀ j, j < 5 → y (tid c1 + 1) j = 0) → q y) (n : Nat) : ∀ (i : Nat) (y : XM), i ≤ 5 → 5 < i + n → (∀ k, k ≠ tid c1 + 1 → y k = x k) → (∀ j, j < i → y (tid c1 + 1) j = 0) → M_X9_clear_2 c1 q n y (i : Int) := by
  induction n with
  | zero => intro i y a1 a2; omega
  | succ n ih =>
    intro i y a1 a2 hf h0
    unfold M_X9_clear_2
    refine ⟨fun c => hq y hf fun j hj => h0 j (by omega), fun c => ⟨⟨by omega, by omega⟩, fun z ez => ⟨rg1 (by omega), ih (i + 1) z (by omega) (by omega) (fun k hk => by rw [ez, uX_k hk]; exact hf k hk) fun j hj => ?_⟩⟩⟩
    rw [ez, Int.toNat_natCast, uX_at]
    by_cases d : j = i
    · rw [if_pos d]
    · rw [if_neg d]; exact h0 j (by omega)
/-- what the text at hand says -/
def PR (s : XM) (D : Nat → Int) : Int × Nat × (Nat → Nat) × (Nat → Int) := pr s 241 0 (fun _ => 0) D
theorem c_readInto {s x : XM} {c1 : Int} {q : Int → XM → Prop} (k : Ok s) (ht : Tx s x) (hq0 : (PR s (x (tid c1 + 2))).1 = 0 → ∀ z, Rd c1 x z (PR s (x (tid c1 + 2))).2.1 (PR s (x (tid c1 + 2))).2.2.1 (PR s (x (tid c1 + 2))).2.2.2 → q 0 z) (hq1 : ¬ (PR s (x (tid c1 + 2))).1 = 0 → ∀ z, Cq c1 x z → z 1 2 = ((PR s (x (tid c1 + 2))).2.1 : Int) → q (PR s (x (tid c1 + 2))).1 z) : M_X8_readInto c1 x q := by
  have hx := ok_x k
  have htd := tid_c c1
  refine ⟨6, c_clear2 (fun y hf h0 => ?_) 6 0 x (by omega) (by omega) (fun _ _ => rfl) (fun j hj => by omega)⟩
  intro z ez
  refine ⟨242, c_into13 k ht 241 0 (fun _ => 0) (x (tid c1 + 2)) z 0 (by omega) (by omega) (by omega) (fun j hj => Nat.zero_le _) ?_ hq0 hq1⟩
  refine ⟨⟨fun k h1 h2 h3 => by rw [ez, uX_k h1]; exact hf k h2, fun j hj => by rw [ez, uX_j hj, hf 1 (by omega)]⟩, by rw [ez, uX_eq]; rfl, fun j hj => by rw [ez, uX_k (by omega)]; exact h0 j hj, fun j => by rw [ez, uX_k (by omega), hf _ (by omega)]⟩
