/-! ===== the beginning ===== -/
theorem x0_83 {j : Nat} (h : j ≠ 21) : x0 83 j = 0 := by
  unfold x0
  rw [if_neg (by omega), if_neg (by omega), if_neg (by omega)]
theorem inv_x0 : Inv x0 := by
  have z : ∀ {k j : Nat}, k ≠ 0 → k ≠ 83 → x0 k j = 0 := fun h0 h1 => x0_z h0 h1
  have et : x0 3 1 = 0 := z (by decide) (by decide)
  have e8 : ∀ j, x0 (tid (x0 3 1) + 1) j = 0 := fun j => by rw [et]; exact z (by decide) (by decide)
  have e9 : ∀ j, x0 (tid (x0 3 1) + 2) j = 0 := fun j => by rw [et]; exact z (by decide) (by decide)
  have z0 : ∀ j, j ≠ 7 → rS x0 0 j = 0 := fun j hj => by
    rw [rS_0]
    unfold rS0
    match j, hj with
    | 0, _ | 1, _ | 2, _ | 3, _ | 4, _ | 5, _ | 6, _ | 8, _ | 9, _ | 10, _ | 11, _ | 12, _ => rfl
    | n + 13, _ => rfl
  have zk : ∀ k j, k ≠ 0 → rS x0 k j = 0 := fun k j hk => by
    rcases Nat.lt_or_ge k 12 with c | c
    · revert j hk
      refine lt12 (P := fun k => ∀ j, k ≠ 0 → rS x0 k j = 0) ?_ ?_ ?_ ?_ ?_ ?_ ?_ ?_ ?_ ?_ ?_ ?_ k c
      all_goals intro j hk
      · exact absurd rfl hk
      · rw [rS_1, z (k := 85) (by decide) (by decide)]; split <;> rfl
      · rw [rS_2, z (k := 86) (by decide) (by decide)]; split <;> rfl
      · rw [rS_3, z (k := 87) (by decide) (by decide)]; split <;> rfl
      · rw [rS_4, z (k := 88) (by decide) (by decide)]; split <;> rfl
      · rw [rS_5, z (k := 93) (by decide) (by decide)]; unfold msk; split <;> (try split) <;> rfl
      · rw [rS_6, z (k := 94) (by decide) (by decide)]; unfold msk; split <;> (try split) <;> rfl
      · rw [rS_7, z (k := 95) (by decide) (by decide)]; unfold msk; split <;> (try split) <;> rfl
      · rw [rS_8, z (k := 84) (by decide) (by decide)]; split <;> rfl
      · rw [rS_9, z (k := 101) (by decide) (by decide)]; split <;> rfl
      · rw [rS_10, z (k := 102) (by decide) (by decide)]; split <;> rfl
      · rw [rS_11, z (k := 96) (by decide) (by decide)]; split <;> rfl
    · obtain ⟨i, rfl⟩ : ∃ i, k = i + 12 := ⟨k - 12, by omega⟩
      rfl
  refine ⟨rS x0, ⟨cS_ext (lt12 ?_ ?_ ?_ ?_ ?_ ?_ ?_ ?_ ?_ ?_ ?_ ?_) fun k hk j => zk k j (by omega), ?_⟩, ⟨rfl, fun j => by rw [z (by decide) (by decide)]; decide⟩, ?_⟩
  · intro j
    by_cases c : j = 7
    · rw [c]; rfl
    · rw [z0 j c, cS_0]
      unfold cS0
      match j, c with
      | 0, _ | 1, _ | 2, _ | 3, _ | 4, _ | 5, _ | 6, _ | 8, _ | 9, _ | 10, _ | 11, _ | 12, _ => rfl
      | n + 13, _ => rfl
  · intro j; rw [zk 1 j (by decide), cS_1, e9]; split <;> rfl
  · intro j; rw [zk 2 j (by decide), cS_2, e9]; split <;> rfl
  · intro j; rw [zk 3 j (by decide), cS_3, e9]; split <;> rfl
  · intro j; rw [zk 4 j (by decide), cS_4, e9]; split <;> rfl
  · intro j
    rw [zk 5 j (by decide), cS_5, e8, e8]
    by_cases c : j < 31
    · rw [if_pos c]
      unfold msk
      by_cases d : j < 30
      · rw [if_pos ⟨rfl, rfl, d⟩]
      · rw [if_neg (by omega)]
        unfold snap
        rw [if_neg (by omega), if_neg (by omega), if_neg (by omega), z (by decide) (by decide)]
    · rw [if_neg c]
  · intro j; rw [zk 6 j (by decide), cS_6, z (k := 10) (by decide) (by decide), if_neg (by omega)]
  · intro j
    rw [zk 7 j (by decide), cS_7]
    by_cases c : j < 62
    · rw [z (k := 75 + 4 * (j / 31)) (by omega) (by omega), if_neg (by omega)]
    · rw [if_neg (fun e => c e.1)]
  · intro j; rw [zk 8 j (by decide), cS_8, z (k := 2) (by decide) (by decide)]; split <;> rfl
  · intro j; rw [zk 9 j (by decide), cS_9, z (k := 61) (by decide) (by decide)]; split <;> rfl
  · intro j; rw [zk 10 j (by decide), cS_10, z (k := 62) (by decide) (by decide)]; split <;> rfl
  · intro j
    rw [zk 11 j (by decide), cS_11]
    by_cases c : j < 2
    · rw [z (k := 75 + 4 * j) (by omega) (by omega), if_neg (by omega)]
    · rw [if_neg (fun e => c e.1)]
  · refine ⟨Or.inl ⟨et, rfl⟩, fun kc hk => ?_, by rw [z (by decide) (by decide)]; decide, by rw [z (by decide) (by decide)]; decide⟩
    have := lay2' hk
    refine ⟨fun b hb => ?_, ?_⟩
    · rw [z (by omega) (by omega)]; decide
    · rw [z (by omega) (by omega)]; decide
  · have n : ∀ j, j ≠ 7 → rS x0 0 j = 0 := z0
    have sn : SnOk (rS x0) 5 0 := by
      refine ⟨fun b _ => ?_, fun b _ _ => zk 5 _ (by decide), fun b c _ _ h => ?_, fun b _ => Or.inl (zk 5 _ (by decide)), fun b _ _ => zk 5 _ (by decide), fun p _ => ?_, fun p hp => ?_, fun p p' hp => ?_, ?_⟩
      · rw [zk 5 _ (by decide)]; decide
      · rw [zk 5 _ (by decide)] at h; omega
      · rw [zk 5 _ (by decide)]; decide
      · rw [n 1 (by decide)] at hp; omega
      · rw [n 1 (by decide)] at hp; omega
      · rw [zk 5 _ (by decide)]; decide
    refine ⟨?_, ⟨fun b hb => ?_, fun b hb => ?_, fun b hb => ?_, fun b hb => ?_⟩, sn, fun i hi => ?_, fun i hi => Or.inl (n _ (by omega)), fun i hi => ?_, fun i hi => ?_⟩
    · unfold OkN
      rw [n 0 (by decide), n 1 (by decide), n 2 (by decide), n 3 (by decide), n 4 (by decide), n 5 (by decide), n 6 (by decide), n 8 (by decide), n 9 (by decide), n 10 (by decide)]
      refine ⟨by decide, by decide, by decide, by decide, by decide, by decide, by decide, ?_, by decide, by decide, by decide⟩
      show -1 ≤ (-1 : Int) ∧ (-1 : Int) ≤ 240
      decide
    · rw [n 0 (by decide)] at hb; omega
    · rw [n 1 (by decide)] at hb; omega
    · rw [n 2 (by decide)] at hb; omega
    · rw [n 3 (by decide)] at hb; omega
    · rw [n 8 (by decide)] at hi; omega
    · rw [n 9 (by decide)] at hi; omega
    · rw [n 6 (by decide)] at hi; omega
