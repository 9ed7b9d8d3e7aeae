/-! ===== tin: the reference's reading, whole ===== -/
theorem r_read {s x : XM} {q : XM → Prop} (k : Ok s) (ht : Tm s x) (D : Nat → Int) (hq0 : (PR s D).1 = 0 → ∀ z, Rq x z → z 83 23 = 0 → z 83 24 = -1 → Ag z (PR s D).2.2.1 (PR s D).2.2.2 → q z) (hq1 : ¬ (PR s D).1 = 0 → ∀ z, Rq x z → z 83 23 = (PR s D).1 → z 83 24 = ((PR s D).2.1 : Int) → q z) : M_X11_read x q := by
  have hx := ok_x k
  have hs := skp_p (s := s) (p := 0) (Nat.zero_le _)
  intro x1 e1 x2 e2 x3 e3 x4 e4 x5 e5 x6 e6 x7 e7 x8 e8
  have fk : ∀ k, k ≠ 83 → x8 k = x k := fun k hk => by rw [e8, uX_k hk, e7, uX_k hk, e6, uX_k hk, e5, uX_k hk, e4, uX_k hk, e3, uX_k hk, e2, uX_k hk, e1, uX_k hk]
  have ff : ∀ j, x8 83 j = if j = 18 then 0 else if j = 16 then 0 else if j = 14 then 0 else if j = 12 then 0 else if j = 11 then 0 else if j = 24 then -1 else if j = 23 then 0 else if j = 22 then 0 else x 83 j := fun j => by rw [e8, uX_at, e7, uX_at, e6, uX_at, e5, uX_at, e4, uX_at, e3, uX_at, e2, uX_at, e1, uX_at]
  have rq8 : Rq x x8 := ⟨fun k h1 _ => fk k h1, fun j hj => by rw [ff j, if_neg (by omega), if_neg (by omega), if_neg (by omega), if_neg (by omega), if_neg (by omega), if_neg (by omega), if_neg (by omega), if_neg (by omega)]⟩
  have t8 := rq8.tm ht
  refine r_skip k (p := 0) (Nat.zero_le _) t8 (ff 22) fun x9 h9 => ?_
  have t9 := h9.tm t8
  have rq9 := rq8.tr h9.rv.rq
  have g11 : x9 83 11 = 0 := by rw [h9.2.1 11 (by decide)]; exact ff 11
  have g12 : x9 83 12 = 0 := by rw [h9.2.1 12 (by decide)]; exact ff 12
  have g14 : x9 83 14 = 0 := by rw [h9.2.1 14 (by decide)]; exact ff 14
  have g16 : x9 83 16 = 0 := by rw [h9.2.1 16 (by decide)]; exact ff 16
  have g18 : x9 83 18 = 0 := by rw [h9.2.1 18 (by decide)]; exact ff 18
  have g23 : x9 83 23 = 0 := by rw [h9.2.1 23 (by decide)]; exact ff 23
  have g24 : x9 83 24 = -1 := by rw [h9.2.1 24 (by decide)]; exact ff 24
  unfold PR at hq0 hq1
  rw [show (241 : Nat) = 240 + 1 from rfl] at hq0 hq1
  unfold pr at hq0 hq1
  rw [h9.2.2, t9.1]
  by_cases d : nX s ≤ skp s 0
  · rw [if_pos d] at hq0
    refine jF (by omega) (hq0 rfl x9 rq9 g23 g24 ⟨g12, g14, g16, g18, fun j hj => ?_, fun j hj => ?_, fun j hj => ?_, fun j hj => ?_, ?_⟩)
    · exact absurd hj (Nat.not_lt_zero _)
    · exact absurd hj (Nat.not_lt_zero _)
    · exact absurd hj (Nat.not_lt_zero _)
    · exact absurd hj (Nat.not_lt_zero _)
    · exact g11
  · rw [if_neg d] at hq0 hq1
    refine jT (by omega) (r_here k t9 h9.2.2 ?_)
    rw [if_pos (by omega)]
    refine ⟨fun e => ?_, fun e => ?_⟩
    · have ek : kd (s 8 (skp s 0)) = 0 := kd_0.2 e
      rw [ek, if_neg (show ¬ ((0 : Nat) = 5 ∨ (¬ (0 : Nat) = 0 ∧ (0 : Nat) = 0)) by omega), if_neg (show ¬ tmx 0 ≤ 0 by decide)] at hq0 hq1
      refine ⟨rg1 (by omega), fun x14 e14 => ?_⟩
      have h14 := Rw.up (p := skp s 0 + 1) e14
      have t14 := h14.tm t9
      have R14 : Rt s x14 0 (skp s 0 + 1) := ⟨by rw [h14.2.1 23 (by decide)]; exact g23, fun _ => ⟨h14.2.2, by rw [h14.2.1 24 (by decide)]; exact g24⟩, fun g => absurd rfl g, _, by omega, h14.2.2⟩
      have hpn : skp s 0 + 1 ≤ nX s := by omega
      refine r_number (lo := 0) (hi := 100) k hpn t14 R14 fun x16 rv16 rt16 x17 e17 => ?_
      have t16 := rv16.tm t14
      have hnb := nuP_b (s := s) (lo := 0) (hi := 100) (c := 0) hpn
      refine r_endm k hnb.2 ⟨by rw [e17, uX_j (by decide)]; exact t16.1, fun j hj => by rw [e17, uX_k (by decide)]; exact t16.2 j hj⟩ (c := nuC s 0 100 0 (skp s 0 + 1)) ?_ fun x18 rv18 rt18 => ?_
      · unfold Rt at rt16 ⊢
        rw [e17, uX_j (by decide), uX_j (by decide), uX_j (by decide)]
        exact rt16
      · have rt : Rt s x18 (cC s 0 (skp s 0 + 1)) (cP s 0 (skp s 0 + 1)) := rt18
        have rq17 : Rq x9 x17 := (h14.rv.rq.tr rv16.rq).tr ⟨fun k h1 h2 => by rw [e17, uX_k h1], fun j hj => by rw [e17, uX_j (by omega)]⟩
        have rq18 := (rq9.tr rq17).tr rv18.rq
        have t18 := rq18.tm ht
        have o : ∀ j, j ≠ 11 → j ≠ 22 → j ≠ 23 → j ≠ 24 → x18 83 j = x9 83 j := fun j h1 h2 h3 h4 => by rw [rv18.2 j h2 h3 h4, e17, uX_j h1, rv16.2 j h2 h3 h4, h14.2.1 j h2]
        have o11 : x18 83 11 = vq s 0 (skp s 0 + 1) 0 := by
          rw [rv18.2 11 (by decide) (by decide) (by decide), e17, uX_eq]
          rfl
        have hcb := cP_b (k := 0) (s := s) (p := skp s 0 + 1) hpn
        by_cases g : cC s 0 (skp s 0 + 1) = 0
        · rw [if_pos g] at hq0 hq1
          obtain ⟨z22, z24⟩ := rt.2.1 g
          refine r_skip k hcb.2 t18 z22 fun u hu => ⟨241, ?_⟩
          refine r_read104 k ht 240 _ _ _ u hcb.2 (by omega) (fun j hj => ?_) (Nat.le_refl 1) (rq18.tr hu.rv.rq) (by rw [hu.2.1 23 (by decide), rt.1]; exact g) (by rw [hu.2.1 24 (by decide)]; exact z24) hu.2.2 ?_ hq0 hq1
          · unfold upC
            by_cases h : j = 0
            · rw [if_pos h, h]; decide
            · rw [if_neg h]; exact Nat.zero_le _
          · refine ⟨?_, ?_, ?_, ?_, fun j hj => absurd hj (Nat.not_lt_zero _), fun j hj => absurd hj (Nat.not_lt_zero _), fun j hj => absurd hj (Nat.not_lt_zero _), fun j hj => absurd hj (Nat.not_lt_zero _), ?_⟩
            · rw [hu.2.1 12 (by decide), o 12 (by decide) (by decide) (by decide) (by decide)]; exact g12
            · rw [hu.2.1 14 (by decide), o 14 (by decide) (by decide) (by decide) (by decide)]; exact g14
            · rw [hu.2.1 16 (by decide), o 16 (by decide) (by decide) (by decide) (by decide)]; exact g16
            · rw [hu.2.1 18 (by decide), o 18 (by decide) (by decide) (by decide) (by decide)]; exact g18
            · rw [hu.2.1 11 (by decide), o11]
              rfl
        · rw [if_neg g] at hq1
          obtain ⟨r, hr, er⟩ := rt.2.2.2
          refine r_skip k hr t18 er fun u hu => ⟨1, ?_⟩
          have u23 : u 83 23 = cC s 0 (skp s 0 + 1) := by rw [hu.2.1 23 (by decide)]; exact rt.1
          have hqu := hq1 g u (rq18.tr hu.rv.rq) u23 (by rw [hu.2.1 24 (by decide)]; exact rt.2.2.1 g)
          unfold M_X11_read_104
          exact ⟨fun _ => hqu, fun _ => jT (by rw [u23]; exact g) hqu⟩
    · have ek : ¬ kd (s 8 (skp s 0)) = 0 := fun g => e (kd_0.1 g)
      rw [if_pos (Or.inr ⟨ek, rfl⟩)] at hq1
      exact r_fail (s := s) g23 (by decide) hs.2.1 h9.2.2 fun z rv rt => hq1 (show ¬ (1 : Int) = 0 by decide) z (rq9.tr rv.rq) rt.1 (rt.2.2.1 (by decide))
/-! ===== what a reading can give ===== -/
theorem pr_c {s : XM} : ∀ f p C D, (∀ j, j < 5 → C j ≤ tmx j) → (∀ j, j < 5 → (pr s f p C D).2.2.1 j ≤ tmx j) ∧ (1 ≤ C 0 → 1 ≤ (pr s f p C D).2.2.1 0)
  | 0, p, C, D, h => ⟨h, id⟩
  | f + 1, p, C, D, h => by
    unfold pr
    split
    · exact ⟨h, id⟩
    · split
      · exact ⟨h, id⟩
      · split
        · exact ⟨h, id⟩
        · rename_i _ n1 n2
          split
          · have ih := pr_c (s := s) f (cP s (kd (s 8 (skp s p))) (skp s p + 1)) (upC C (kd (s 8 (skp s p)))) (upD D (4 * (tbk (kd (s 8 (skp s p))) + C (kd (s 8 (skp s p))))) (tnk (kd (s 8 (skp s p)))) (vq s (kd (s 8 (skp s p))) (skp s p + 1))) (fun j hj => by
              unfold upC
              by_cases g : j = kd (s 8 (skp s p))
              · rw [if_pos g, g]; omega
              · rw [if_neg g]; exact h j hj)
            refine ⟨ih.1, fun g => ih.2 ?_⟩
            unfold upC
            split <;> omega
          · exact ⟨h, id⟩
def VR (C : Nat → Nat) (D : Nat → Int) : Prop := ∀ k, k < 5 → ∀ i, i < C k → ∀ m, m < tnk k → sI 3 (k * 4 + m) ≤ D (4 * (tbk k + i) + m) ∧ D (4 * (tbk k + i) + m) ≤ sI 4 (k * 4 + m)
theorem dj : ∀ k, k < 5 → ∀ k', k' < 5 → k ≠ k' → tbk k + tmx k ≤ tbk k' ∨ tbk k' + tmx k' ≤ tbk k := by decide
theorem pr_v {s : XM} : ∀ f p C D, (∀ j, j < 5 → C j ≤ tmx j) → VR C D → VR (pr s f p C D).2.2.1 (pr s f p C D).2.2.2
  | 0, p, C, D, _, h => h
  | f + 1, p, C, D, hC, h => by
    unfold pr
    split
    · exact h
    · split
      · exact h
      · split
        · exact h
        · rename_i _ n1 n2
          split
          · refine pr_v f _ _ _ (fun j hj => ?_) fun k hk i hi m hm => ?_
            · unfold upC
              by_cases g : j = kd (s 8 (skp s p))
              · rw [if_pos g, g]; omega
              · rw [if_neg g]; exact hC j hj
            · generalize hkk : kd (s 8 (skp s p)) = kk at *
              have hkk5 : kk < 5 := by have := kd_b (s 8 (skp s p)); omega
              have hlo := sI_lo (k * 4 + m) (by have := (sI_tab k hk).2.2.2.1; omega)
              have tn := (sI_tab k hk).2.2.2.1
              have tn' := (sI_tab kk hkk5).2.2.2.1
              unfold upC at hi
              unfold upD
              by_cases g : k = kk
              · rw [if_pos g] at hi
                rw [g] at hi hm ⊢
                by_cases e : i = C kk
                · rw [e, if_pos (by omega), show 4 * (tbk kk + C kk) + m - 4 * (tbk kk + C kk) = m by omega]
                  rw [g] at hlo
                  exact nuV_b hlo.2.1
                · rw [if_neg (by omega)]
                  have := h k hk i (by rw [g]; omega) m (by rw [g]; exact hm)
                  rw [g] at this
                  exact this
              · rw [if_neg g] at hi
                have := dj k hk kk hkk5 g
                have := hC k hk
                rw [if_neg (by omega)]
                exact h k hk i hi m hm
          · exact h
theorem PR_c {s : XM} {D : Nat → Int} : (∀ j, j < 5 → (PR s D).2.2.1 j ≤ tmx j) ∧ VR (PR s D).2.2.1 (PR s D).2.2.2 := ⟨(pr_c 241 0 (fun _ => 0) D fun _ _ => Nat.zero_le _).1, pr_v 241 0 (fun _ => 0) D (fun _ _ => Nat.zero_le _) fun k hk i hi => absurd hi (Nat.not_lt_zero _)⟩
theorem PR_t {s : XM} {D : Nat → Int} (h : (PR s D).1 = 0) : (PR s D).2.2.1 0 = if nX s ≤ skp s 0 then 0 else 1 := by
  have hb : (PR s D).2.2.1 0 ≤ 1 := (PR_c (s := s) (D := D)).1 0 (by decide)
  revert h hb
  unfold PR
  rw [show (241 : Nat) = 240 + 1 from rfl]
  unfold pr
  by_cases d : nX s ≤ skp s 0
  · rw [if_pos d, if_pos d]
    intro _ _
    rfl
  · rw [if_neg d, if_neg d]
    by_cases e : kd (s 8 (skp s 0)) = 0
    · rw [e, if_neg (show ¬ ((0 : Nat) = 5 ∨ (¬ (0 : Nat) = 0 ∧ (0 : Nat) = 0)) by omega), if_neg (show ¬ tmx 0 ≤ 0 by decide)]
      by_cases g : cC s 0 (skp s 0 + 1) = 0
      · rw [if_pos g]
        intro _ hb
        have := (pr_c (s := s) 240 (cP s 0 (skp s 0 + 1)) (upC (fun _ => 0) 0) (upD D (4 * (tbk 0 + 0)) (tnk 0) (vq s 0 (skp s 0 + 1))) (fun j hj => by
          unfold upC
          by_cases h : j = 0
          · rw [if_pos h, h]; decide
          · rw [if_neg h]; exact Nat.zero_le _)).2 (Nat.le_refl 1)
        exact Nat.le_antisymm hb this
      · rw [if_neg g]
        intro h
        exact absurd h g
    · rw [if_pos (Or.inr ⟨e, rfl⟩)]
      intro h
      exact absurd h (show ¬ (1 : Int) = 0 by decide)
theorem PR_p {s : XM} {D : Nat → Int} : (PR s D).2.1 ≤ nX s ∧ 0 ≤ (PR s D).1 ∧ (PR s D).1 ≤ 3 := by
  have ec : ∀ k p, 0 ≤ cC s k p ∧ cC s k p ≤ 3 := fun k p => by
    have nc : ∀ lo hi c p, 0 ≤ c ∧ c ≤ 3 → 0 ≤ nuC s lo hi c p ∧ nuC s lo hi c p ≤ 3 := fun lo hi c p hc => by
      unfold nuC
      repeat' split
      all_goals omega
    have sc : ∀ m, 0 ≤ (sq s k p m).1 ∧ (sq s k p m).1 ≤ 3 := fun m => by
      induction m with
      | zero => exact ⟨Int.le_refl 0, (by decide : (0 : Int) ≤ 3)⟩
      | succ m ih => exact nc _ _ _ _ ih
    have := sc (tnk k)
    unfold cC eC
    repeat' split
    all_goals omega
  have : ∀ f p C D, p ≤ nX s → (pr s f p C D).2.1 ≤ nX s ∧ 0 ≤ (pr s f p C D).1 ∧ (pr s f p C D).1 ≤ 3 := fun f => by
    induction f with
    | zero => intro p C D hp; exact ⟨hp, Int.le_refl 0, (by decide : (0 : Int) ≤ 3)⟩
    | succ f ih =>
      intro p C D hp
      have hs := skp_p hp
      unfold pr
      split
      · exact ⟨hs.2.1, Int.le_refl 0, (by decide : (0 : Int) ≤ 3)⟩
      · split
        · exact ⟨hs.2.1, (by decide : (0 : Int) ≤ 1), (by decide : (1 : Int) ≤ 3)⟩
        · split
          · exact ⟨hs.2.1, (by decide : (0 : Int) ≤ 3), (by decide : (3 : Int) ≤ 3)⟩
          · have hcb := cP_b (s := s) (k := kd (s 8 (skp s p))) (p := skp s p + 1) (by omega)
            split
            · exact ih _ _ _ hcb.2
            · exact ⟨hcb.2, ec _ _⟩
  exact this 241 0 (fun _ => 0) D (Nat.zero_le _)
