theorem kd_0 {z : Int} : kd z = 0 ↔ z = 116 := by
  unfold kd
  repeat' split
  all_goals constructor <;> intro h <;> first | omega | cases h
theorem r_clause {s y : XM} {q : XM → Prop} {P : Nat} {C : Nat → Nat} {D : Nat → Int} (k : Ok s) (hP : P < nX s) (ht : Tm s y) (h0 : Rt s y 0 (P + 1)) (hA : Ag y C D) (hC : ∀ j, j < 5 → C j ≤ tmx j) (hC0 : 1 ≤ C 0)
    (h5 : kd (s 8 P) = 5 → ∀ z, Rq y z → Rt s z 1 P → q z)
    (h3 : ¬ kd (s 8 P) = 5 → tmx (kd (s 8 P)) ≤ C (kd (s 8 P)) → ∀ z, Rq y z → Rt s z 3 P → q z)
    (hq : ¬ kd (s 8 P) = 5 → ¬ tmx (kd (s 8 P)) ≤ C (kd (s 8 P)) → ∀ z, Rq y z → Rt s z (cC s (kd (s 8 P)) (P + 1)) (cP s (kd (s 8 P)) (P + 1)) → Ag z (upC C (kd (s 8 P))) (upD D (4 * (tbk (kd (s 8 P)) + C (kd (s 8 P)))) (tnk (kd (s 8 P))) (vq s (kd (s 8 P)) (P + 1))) → q z) : M_X11_clause y (s 8 P) (P : Int) q := by
  have hx := ok_x k
  have c1 : C 1 ≤ 12 := hC 1 (by decide)
  have c2 : C 2 ≤ 6 := hC 2 (by decide)
  have c3 : C 3 ≤ 5 := hC 3 (by decide)
  have c4 : C 4 ≤ 5 := hC 4 (by decide)
  obtain ⟨hp, h24⟩ := h0.2.1 rfl
  have hp1 : P + 1 ≤ nX s := by omega
  obtain ⟨a1, a2, a3, a4, a5, a6, a7, a8, a9⟩ := id hA
  unfold M_X11_clause
  refine ⟨fun e => ?_, fun n1 => ⟨fun e => ?_, fun n2 => ⟨fun e => ?_, fun n3 => ⟨fun e => ?_, fun n4 => ⟨fun n5 => ?_, fun e => ?_⟩⟩⟩⟩⟩
  · have ek : kd (s 8 P) = 1 := by rw [e]; rfl
    rw [ek] at h3 hq
    rw [a1]
    refine ⟨fun d => ?_, fun d => r_fail (s := s) h0.1 (by decide) hp1 hp fun z rv rt => h3 (by decide) (show 12 ≤ C 1 by omega) z rv.rq rt⟩
    refine r_marks k (Or.inl ⟨rfl, rfl, by omega⟩) hp1 ht h0 fun w mw => ?_
    have e12 : w 83 12 = (C 1 : Int) := by rw [mw.2.2.1 12 (by decide) (by decide) (by decide)]; exact a1
    rw [e12]
    refine ⟨rg1 (by omega), fun u eu => ms_end (kk := 1) k (by decide) hp1 ht mw (by decide) eu fun z hz1 hz2 hz3 hz4 rt => ?_⟩
    refine hq (by decide) (show ¬ 12 ≤ C 1 by omega) z ⟨fun k g1 g2 => hz1 k g1 (by omega), fun j hj => hz2 j (by omega) (by omega) (by omega) (by omega)⟩ rt ?_
    exact ag_1 hA (by omega) hz1 hz2 hz3 hz4
  · have ek : kd (s 8 P) = 4 := by rw [e]; rfl
    rw [ek] at h3 hq
    rw [a4]
    refine ⟨fun d => ?_, fun d => r_fail (s := s) h0.1 (by decide) hp1 hp fun z rv rt => h3 (by decide) (show 5 ≤ C 4 by omega) z rv.rq rt⟩
    refine ms_step (k1 := 92) (b := C 4) (kk := 4) k (by decide) hp1 ht (ms_0 h0) rfl rfl fun v x2 m2 f2 => ⟨⟨by omega, by omega⟩, fun w ew => ?_⟩
    rw [Int.toNat_natCast, show C 4 = C 4 + 0 from rfl] at ew
    rw [← ew] at m2
    have e18 : w 83 18 = (C 4 : Int) := by rw [m2.2.2.1 18 (by decide) (by decide) (by decide)]; exact a4
    rw [e18]
    refine ⟨rg1 (by omega), fun u eu => ms_end (kk := 4) k (by decide) hp1 ht m2 (by decide) eu fun z hz1 hz2 hz3 hz4 rt => ?_⟩
    refine hq (by decide) (show ¬ 5 ≤ C 4 by omega) z ⟨fun k g1 g2 => hz1 k g1 (by omega), fun j hj => hz2 j (by omega) (by omega) (by omega) (by omega)⟩ rt ?_
    exact ag_4 hA c1 c2 c3 (by omega) hz1 hz2 hz3 hz4
  · have ek : kd (s 8 P) = 2 := by rw [e]; rfl
    rw [ek] at h3 hq
    rw [a2]
    refine ⟨fun d => ?_, fun d => r_fail (s := s) h0.1 (by decide) hp1 hp fun z rv rt => h3 (by decide) (show 6 ≤ C 2 by omega) z rv.rq rt⟩
    refine ms_step (k1 := 90) (b := 4 * C 2) (kk := 2) k (by decide) hp1 ht (ms_0 h0) rfl rfl fun v1 x1 m1 f1 => ⟨⟨by omega, by omega⟩, fun w1 ew1 => ?_⟩
    rw [show (4 * (C 2 : Int)).toNat = 4 * C 2 + 0 by omega] at ew1
    rw [← ew1] at m1
    refine ms_step k (by decide) hp1 ht m1 rfl rfl fun v2 x2 m2 f2 => ?_
    rw [show w1 83 14 = (C 2 : Int) by rw [m1.2.2.1 14 (by decide) (by decide) (by decide)]; exact a2]
    refine ⟨⟨by omega, by omega⟩, fun w2 ew2 => ?_⟩
    rw [show (4 * (C 2 : Int) + 1).toNat = 4 * C 2 + 1 by omega] at ew2
    rw [← ew2] at m2
    refine ms_step k (by decide) hp1 ht m2 rfl rfl fun v3 x3 m3 f3 => ?_
    rw [show w2 83 14 = (C 2 : Int) by rw [m2.2.2.1 14 (by decide) (by decide) (by decide)]; exact a2]
    refine ⟨⟨by omega, by omega⟩, fun w3 ew3 => ?_⟩
    rw [show (4 * (C 2 : Int) + 2).toNat = 4 * C 2 + 2 by omega] at ew3
    rw [← ew3] at m3
    refine ms_step k (by decide) hp1 ht m3 rfl rfl fun v4 x4 m4 f4 => ?_
    rw [show w3 83 14 = (C 2 : Int) by rw [m3.2.2.1 14 (by decide) (by decide) (by decide)]; exact a2]
    refine ⟨⟨by omega, by omega⟩, fun w4 ew4 => ?_⟩
    rw [show (4 * (C 2 : Int) + 3).toNat = 4 * C 2 + 3 by omega] at ew4
    rw [← ew4] at m4
    rw [show w4 83 14 = (C 2 : Int) by rw [m4.2.2.1 14 (by decide) (by decide) (by decide)]; exact a2]
    refine ⟨rg1 (by omega), fun u eu => ms_end (kk := 2) k (by decide) hp1 ht m4 (by decide) eu fun z hz1 hz2 hz3 hz4 rt => ?_⟩
    refine hq (by decide) (show ¬ 6 ≤ C 2 by omega) z ⟨fun k g1 g2 => hz1 k g1 (by omega), fun j hj => hz2 j (by omega) (by omega) (by omega) (by omega)⟩ rt ?_
    exact ag_2 hA c1 (by omega) hz1 hz2 hz3 hz4
  · have ek : kd (s 8 P) = 3 := by rw [e]; rfl
    rw [ek] at h3 hq
    rw [a3]
    refine ⟨fun d => ?_, fun d => r_fail (s := s) h0.1 (by decide) hp1 hp fun z rv rt => h3 (by decide) (show 5 ≤ C 3 by omega) z rv.rq rt⟩
    refine r_marks k (Or.inr ⟨rfl, rfl, by omega⟩) hp1 ht h0 fun w mw => ?_
    have e16 : w 83 16 = (C 3 : Int) := by rw [mw.2.2.1 16 (by decide) (by decide) (by decide)]; exact a3
    rw [e16]
    refine ⟨rg1 (by omega), fun u eu => ms_end (kk := 3) k (by decide) hp1 ht mw (by decide) eu fun z hz1 hz2 hz3 hz4 rt => ?_⟩
    refine hq (by decide) (show ¬ 5 ≤ C 3 by omega) z ⟨fun k g1 g2 => hz1 k g1 (by omega), fun j hj => hz2 j (by omega) (by omega) (by omega) (by omega)⟩ rt ?_
    exact ag_3 hA c1 c2 (by omega) hz1 hz2 hz3 hz4
  · have ek : kd (s 8 P) = 5 := by
      unfold kd
      rw [if_neg n5, if_neg n1, if_neg n3, if_neg n4, if_neg n2]
    refine r_fail (s := s) h0.1 (by decide) hp1 hp fun z rv rt => ?_
    refine r_endm (c := 1) (p := P) k (by omega) (rv.tm ht) rt fun w rw' rt' => h5 ek w (rv.tr rw').rq ?_
    rw [(e_s (s := s) (p := P) (show ¬ (1 : Int) = 0 by decide)).1, (e_s (s := s) (p := P) (show ¬ (1 : Int) = 0 by decide)).2] at rt'
    exact rt'
  · have ek : kd (s 8 P) = 0 := by rw [e]; rfl
    rw [ek] at h3
    refine r_fail (s := s) h0.1 (by decide) hp1 hp fun z rv rt => ?_
    refine r_endm (c := 3) (p := P) k (by omega) (rv.tm ht) rt fun w rw' rt' => h3 (by decide) hC0 w (rv.tr rw').rq ?_
    rw [(e_s (s := s) (p := P) (show ¬ (3 : Int) = 0 by decide)).1, (e_s (s := s) (p := P) (show ¬ (3 : Int) = 0 by decide)).2] at rt'
    exact rt'
/-- after a clause: past the spaces, and on, or out -/
theorem r_out {s x y : XM} {q : XM → Prop} {c : Int} {p f : Nat} (k : Ok s) (ht : Tm s y) (hy : Rq x y) (hR : Rt s y c p) (hc : ¬ c = 0) (hq : ∀ z, Rq x z → z 83 23 = c → z 83 24 = (p : Int) → q z) : M_X11_skip y (fun z => M_X11_read_104 q (f + 1) z) := by
  obtain ⟨r, hr, er⟩ := hR.2.2.2
  refine r_skip k hr ht er fun z hz => ?_
  have z23 : z 83 23 = c := by rw [hz.2.1 23 (by decide)]; exact hR.1
  have hqz := hq z (hy.tr hz.rv.rq) z23 (by rw [hz.2.1 24 (by decide)]; exact hR.2.2.1 hc)
  unfold M_X11_read_104
  exact ⟨fun _ => hqz, fun _ => jT (by rw [z23]; exact hc) hqz⟩
theorem r_read104 {s x : XM} {q : XM → Prop} (k : Ok s) (ht : Tm s x) (f : Nat) : ∀ (p : Nat) (C : Nat → Nat) (D : Nat → Int) (y : XM), p ≤ nX s → nX s < p + f → (∀ j, j < 5 → C j ≤ tmx j) → 1 ≤ C 0 → Rq x y → y 83 23 = 0 → y 83 24 = -1 → y 83 22 = (skp s p : Int) → Ag y C D → ((pr s f p C D).1 = 0 → ∀ z, Rq x z → z 83 23 = 0 → z 83 24 = -1 → Ag z (pr s f p C D).2.2.1 (pr s f p C D).2.2.2 → q z) → (¬ (pr s f p C D).1 = 0 → ∀ z, Rq x z → z 83 23 = (pr s f p C D).1 → z 83 24 = ((pr s f p C D).2.1 : Int) → q z) → M_X11_read_104 q (f + 1) y := by
  have hx := ok_x k
  induction f with
  | zero => intro p C D y a1 a2; omega
  | succ f ih =>
    intro p C D y a1 a2 hC hC0 hy y23 y24 y22 hA hq0 hq1
    have hs := skp_p a1
    have hty := hy.tm ht
    unfold M_X11_read_104
    rw [hty.1, y22]
    unfold pr at hq0 hq1
    by_cases d : nX s ≤ skp s p
    · rw [if_pos d] at hq0
      exact ⟨fun _ => hq0 rfl y hy y23 y24 hA, fun g => by omega⟩
    · rw [if_neg d] at hq0 hq1
      refine ⟨fun g => by omega, fun _ => jF y23 ⟨rg1 (by omega), fun w ew => ⟨⟨by omega, by omega⟩, ?_⟩⟩⟩
      have hw := Rw.up (p := skp s p + 1) ew
      have htw := hw.tm hty
      rw [Int.toNat_natCast, htw.2 _ (by omega)]
      have hRw : Rt s w 0 (skp s p + 1) := ⟨by rw [hw.2.1 23 (by decide)]; exact y23, fun _ => ⟨hw.2.2, by rw [hw.2.1 24 (by decide)]; exact y24⟩, fun g => absurd rfl g, _, by omega, hw.2.2⟩
      have hAw : Ag w C D := by
        obtain ⟨b1, b2, b3, b4, b5, b6, b7, b8, b9⟩ := hA
        unfold Ag
        rw [hw.2.1 12 (by decide), hw.2.1 14 (by decide), hw.2.1 16 (by decide), hw.2.1 18 (by decide), hw.2.1 11 (by decide), hw.1 89 (by decide), hw.1 90 (by decide), hw.1 91 (by decide), hw.1 92 (by decide)]
        exact ⟨b1, b2, b3, b4, b5, b6, b7, b8, b9⟩
      have hxw := hy.tr hw.rv.rq
      have no : ∀ (P : Prop), ¬ kd (s 8 (skp s p)) = 5 → (kd (s 8 (skp s p)) = 5 ∨ (¬ kd (s 8 (skp s p)) = 0 ∧ C 0 = 0)) → P := fun P g1 g2 => by omega
      refine r_clause k (by omega) htw hRw hAw hC hC0 (fun e z rz rt => ?_) (fun e hB z rz rt => ?_) (fun e hB z rz rt ag => ?_)
      · rw [if_pos (Or.inl e)] at hq1
        exact r_out (x := x) k (rz.tm htw) (hxw.tr rz) rt (by decide) fun u hu u1 u2 => hq1 (show ¬ (1 : Int) = 0 by decide) u hu u1 u2
      · rw [if_neg (no _ e), if_pos hB] at hq1
        exact r_out (x := x) k (rz.tm htw) (hxw.tr rz) rt (by decide) fun u hu u1 u2 => hq1 (show ¬ (3 : Int) = 0 by decide) u hu u1 u2
      · rw [if_neg (no _ e), if_neg hB] at hq0 hq1
        by_cases g : cC s (kd (s 8 (skp s p))) (skp s p + 1) = 0
        · rw [if_pos g] at hq0 hq1
          have hcb := cP_b (k := kd (s 8 (skp s p))) (s := s) (p := skp s p + 1) (by omega)
          obtain ⟨z22, z24⟩ := rt.2.1 g
          refine r_skip k hcb.2 (rz.tm htw) z22 fun u hu => ?_
          refine ih _ _ _ u hcb.2 (by omega) (fun j hj => ?_) ?_ ((hxw.tr rz).tr hu.rv.rq) (by rw [hu.2.1 23 (by decide), rt.1]; exact g) (by rw [hu.2.1 24 (by decide)]; exact z24) hu.2.2 ?_ hq0 hq1
          · unfold upC
            by_cases h : j = kd (s 8 (skp s p))
            · rw [if_pos h, h]; omega
            · rw [if_neg h]; exact hC j hj
          · unfold upC
            split <;> omega
          · obtain ⟨b1, b2, b3, b4, b5, b6, b7, b8, b9⟩ := ag
            unfold Ag
            rw [hu.2.1 12 (by decide), hu.2.1 14 (by decide), hu.2.1 16 (by decide), hu.2.1 18 (by decide), hu.2.1 11 (by decide), hu.1 89 (by decide), hu.1 90 (by decide), hu.1 91 (by decide), hu.1 92 (by decide)]
            exact ⟨b1, b2, b3, b4, b5, b6, b7, b8, b9⟩
        · rw [if_neg g] at hq1
          exact r_out (x := x) k (rz.tm htw) (hxw.tr rz) rt g fun u hu u1 u2 => hq1 g u hu u1 u2
