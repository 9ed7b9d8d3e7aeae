/-! ===== the law, from the pairs ===== -/
theorem j_teach {s x : XM} {v : Int} {B : Prop} {P Q : XM → Prop} (hc : CF s x) (hr : RF s x) (k : Ok s) (hB : B) (h : ∀ y, Inv y → P y) : M_X10_teach x v (fun z1 y => B ∧ M_X11_teach y v (fun z2 w => ((z1 = z2 → P w) ∧ (¬ z1 = z2 → Q w)))) := by
  refine C_teach hc k (fun c => ⟨hB, R_teach hr k (fun _ => ⟨fun _ => h x ⟨s, hc, hr, k⟩, fun e => absurd rfl e⟩) fun w e hw => absurd ⟨by omega, by omega⟩ c⟩) fun w e hw r y hy hcy fy => ⟨hB, R_teach (hr.keep fy) k (fun c => absurd ⟨by omega, by omega⟩ c) fun w' e' hw' r' z hz hrz gz => ?_⟩
  have ew : w = w' := by omega
  subst ew
  have er := hy.uniq hz
  subst er
  exact ⟨fun _ => h z ⟨s, hcy.keep gz, hrz, k⟩, fun e => absurd rfl e⟩
theorem j_load {s x : XM} {v : Int} {B P Q : Prop} (hc : CF s x) (hr : RF s x) (k : Ok s) (hB : B) (h : P) : M_X10_load x v (fun z1 => B ∧ M_X11_load x v (fun z2 => ((z1 = z2 → P) ∧ (¬ z1 = z2 → Q)))) := by
  refine C_load hc k (fun c => ⟨hB, R_load hr k (fun _ => ⟨fun _ => h, fun e => absurd rfl e⟩) fun c2 => absurd c2 c⟩) fun c r hr1 => ⟨hB, R_load hr k (fun c2 => absurd c c2) fun _ r' hr2 => ?_⟩
  have er := hr1.uniq hr2
  exact ⟨fun _ => h, fun e => absurd er e⟩
def Jt : Prop := ∀ (x : XM) (P Q : XM → Prop), Inv x → (∀ y, Inv y → P y) → M_X10_tin x (fun z1 y => M_X11_tin y (fun z2 w => ((z1 = z2 → P w) ∧ (¬ z1 = z2 → Q w))))
def Jm : Prop := ∀ (x : XM) (v : Int) (B : Prop) (P Q : XM → Prop), Inv x → B → (∀ y, Inv y → P y) → M_X10_match x v (fun z1 y => B ∧ M_X11_match y v (fun z2 w => ((z1 = z2 → P w) ∧ (¬ z1 = z2 → Q w))))
theorem law_18 (Ht : Jt) (Hm : Jm) {L : Nat} {xs : Nat → Int} (hL : L ≤ 1536) (hxs : ∀ j, Rg (xs j)) (n : Nat) : ∀ (i : Nat) (x : XM) (v3 : Int), v3 = 3 * (i : Int) → 3 * i ≤ L → L + 1 ≤ 3 * (i + n) → Inv x → M_L_law_18 L xs (fun z _ => z = 1) n x v3 := by
  induction n with
  | zero => intro i x v3 _ h1 h2; omega
  | succ n ihn =>
    intro i x v3 e3 h1 h2 hI
    obtain ⟨s, hc, hr, k⟩ := hI
    unfold M_L_law_18
    refine ⟨⟨by omega, by omega⟩, ⟨fun _ => rfl, fun hle => ⟨⟨by omega, by omega⟩, ?_⟩⟩⟩
    have b1 : 0 ≤ v3 + 1 ∧ v3 + 1 < (L : Int) := ⟨by omega, by omega⟩
    have b2 : 0 ≤ v3 + 2 ∧ v3 + 2 < (L : Int) := ⟨by omega, by omega⟩
    have rgv : Rg (v3 + 3) := ⟨by omega, by omega⟩
    have ih : ∀ y, Inv y → M_L_law_18 L xs (fun z _ => z = 1) n y (v3 + 3) := fun y hy => ihn (i + 1) y (v3 + 3) (by omega) (by omega) (by omega) hy
    clear ihn
    refine ⟨fun _ => ⟨b1, C_feed hc k fun y hy ky fy => ⟨b1, R_feed (hr.keep fy) k fun z hz gz => ⟨fun _ => ⟨rgv, ih z ⟨_, hy.keep gz, hz, ky⟩⟩, fun e => absurd rfl e⟩⟩⟩, fun _ => ?_⟩
    refine ⟨fun _ => Ht x _ _ ⟨s, hc, hr, k⟩ fun z hz => ⟨rgv, ih z hz⟩, fun _ => ?_⟩
    refine ⟨fun _ => C_fault hc (R_fault hr ⟨fun _ => ⟨rgv, ih x ⟨s, hc, hr, k⟩⟩, fun e => absurd rfl e⟩), fun _ => ?_⟩
    refine ⟨fun _ => ⟨b1, C_told hc k ⟨b1, R_told hr k ⟨fun _ => ⟨rgv, ih x ⟨s, hc, hr, k⟩⟩, fun e => absurd rfl e⟩⟩⟩, fun _ => ?_⟩
    refine ⟨fun _ => ⟨b1, b2, C_button hc k ⟨b1, b2, R_button hr k ⟨fun _ => ⟨rgv, ih x ⟨s, hc, hr, k⟩⟩, fun e => absurd rfl e⟩⟩⟩, fun _ => ?_⟩
    refine ⟨fun _ => ⟨b1, b2, C_rule hc k ⟨b1, b2, R_rule hr k ⟨fun _ => ⟨rgv, ih x ⟨s, hc, hr, k⟩⟩, fun e => absurd rfl e⟩⟩⟩, fun _ => ?_⟩
    refine ⟨fun _ => ⟨b1, b2, C_cause hc k ⟨b1, b2, R_cause hr k ⟨fun _ => ⟨rgv, ih x ⟨s, hc, hr, k⟩⟩, fun e => absurd rfl e⟩⟩⟩, fun _ => ?_⟩
    refine ⟨fun _ => ⟨b1, b2, C_need hc k ⟨b1, b2, R_need hr k ⟨fun _ => ⟨rgv, ih x ⟨s, hc, hr, k⟩⟩, fun e => absurd rfl e⟩⟩⟩, fun _ => ?_⟩
    refine ⟨fun _ => ⟨b1, C_heap hc k ⟨b1, R_heap hr k ⟨fun _ => ⟨rgv, ih x ⟨s, hc, hr, k⟩⟩, fun e => absurd rfl e⟩⟩⟩, fun _ => ?_⟩
    refine ⟨fun _ => ⟨b1, b2, C_put hc k fun y hy ky fy => ⟨b1, b2, R_put (hr.keep fy) k fun z hz gz => ⟨fun _ => ⟨rgv, ih z ⟨_, hy.keep gz, hz, ky⟩⟩, fun e => absurd rfl e⟩⟩⟩, fun _ => ?_⟩
    refine ⟨fun _ => ⟨b1, C_takeBack hc k fun y hy ky fy => ⟨b1, R_takeBack (hr.keep fy) k fun z hz gz => ⟨fun _ => ⟨rgv, ih z ⟨_, hy.keep gz, hz, ky⟩⟩, fun e => absurd rfl e⟩⟩⟩, fun _ => ?_⟩
    refine ⟨fun _ => C_sort hc k fun y hy ky fy => R_sort (hr.keep fy) k fun z hz gz => ⟨fun _ => ⟨rgv, ih z ⟨_, hy.keep gz, hz, ky⟩⟩, fun e => absurd rfl e⟩, fun _ => ?_⟩
    refine ⟨fun _ => ⟨b1, b2, C_sew hc k fun y hy ky fy => ⟨b1, b2, R_sew (hr.keep fy) k fun z hz gz => ⟨fun _ => ⟨rgv, ih z ⟨_, hy.keep gz, hz, ky⟩⟩, fun e => absurd rfl e⟩⟩⟩, fun _ => ?_⟩
    refine ⟨fun _ => ⟨b1, C_unpick hc k fun y hy ky fy => ⟨b1, R_unpick (hr.keep fy) k fun z hz gz => ⟨fun _ => ⟨rgv, ih z ⟨_, hy.keep gz, hz, ky⟩⟩, fun e => absurd rfl e⟩⟩⟩, fun _ => ?_⟩
    refine ⟨fun _ => ⟨b1, C_pull hc k fun y hy ky fy => ⟨b1, R_pull (hr.keep fy) k fun z hz gz => ⟨fun _ => ⟨rgv, ih z ⟨_, hy.keep gz, hz, ky⟩⟩, fun e => absurd rfl e⟩⟩⟩, fun _ => ?_⟩
    refine ⟨fun _ => ⟨b1, C_up hc k fun y hy ky fy => ⟨b1, R_up (hr.keep fy) k fun z hz gz => ⟨fun _ => ⟨rgv, ih z ⟨_, hy.keep gz, hz, ky⟩⟩, fun e => absurd rfl e⟩⟩⟩, fun _ => ?_⟩
    refine ⟨fun _ => ⟨b1, C_drift hc k fun y hy ky fy => ⟨b1, R_drift (hr.keep fy) k fun z hz gz => ⟨fun _ => ⟨rgv, ih z ⟨_, hy.keep gz, hz, ky⟩⟩, fun e => absurd rfl e⟩⟩⟩, fun _ => ?_⟩
    refine ⟨fun _ => C_undo hc k fun y hy ky fy => R_undo (hr.keep fy) k fun z hz gz => ⟨fun _ => ⟨rgv, ih z ⟨_, hy.keep gz, hz, ky⟩⟩, fun e => absurd rfl e⟩, fun _ => ?_⟩
    refine ⟨fun _ => ⟨b1, b2, C_fit hc k ⟨b1, b2, R_fit hr k fun z hz gz => ⟨fun _ => ⟨rgv, ih z ⟨s, hc.keep gz, hz, k⟩⟩, fun e => absurd rfl e⟩⟩⟩, fun _ => ?_⟩
    refine ⟨fun _ => ⟨b1, C_tells hc k fun y hy fy => ⟨b1, R_tells (hr.keep fy) k fun z hz gz => ⟨fun _ => ⟨rgv, ih z ⟨s, hy.keep gz, hz, k⟩⟩, fun e => absurd rfl e⟩⟩⟩, fun _ => ?_⟩
    refine ⟨fun _ => ⟨b1, j_teach hc hr k b1 fun z hz => ⟨rgv, ih z hz⟩⟩, fun _ => ?_⟩
    refine ⟨fun _ => ⟨b1, Hm x _ _ _ _ ⟨s, hc, hr, k⟩ b1 fun z hz => ⟨rgv, ih z hz⟩⟩, fun _ => ?_⟩
    refine ⟨fun _ => ⟨b1, j_load hc hr k b1 ⟨rgv, ih x ⟨s, hc, hr, k⟩⟩⟩, fun _ => ?_⟩
    refine ⟨fun _ => ⟨b1, b2, C_slips hc k ⟨b1, b2, R_slips hr k ⟨fun _ => ⟨rgv, ih x ⟨s, hc, hr, k⟩⟩, fun e => absurd rfl e⟩⟩⟩, fun _ => ?_⟩
    refine ⟨fun _ => ⟨b1, b2, C_undid hc k ⟨b1, b2, R_undid hr k ⟨fun _ => ⟨rgv, ih x ⟨s, hc, hr, k⟩⟩, fun e => absurd rfl e⟩⟩⟩, fun _ => ?_⟩
    refine ⟨fun _ => ⟨b1, C_change hc k ⟨b1, R_change hr k ⟨fun _ => ⟨rgv, ih x ⟨s, hc, hr, k⟩⟩, fun e => absurd rfl e⟩⟩⟩, fun _ => ?_⟩
    refine ⟨fun _ => ⟨b1, C_alike hc k ⟨b1, R_alike hr k ⟨fun _ => ⟨rgv, ih x ⟨s, hc, hr, k⟩⟩, fun e => absurd rfl e⟩⟩⟩, fun _ => ?_⟩
    refine ⟨fun _ => ⟨b1, C_child hc ⟨b1, R_child hr ⟨fun _ => ⟨rgv, ih x ⟨s, hc, hr, k⟩⟩, fun e => absurd rfl e⟩⟩⟩, fun _ => ?_⟩
    refine ⟨fun _ => ⟨b1, b2, C_write hc k fun y hy ky fy => ⟨b1, b2, R_write (hr.keep fy) k fun z hz gz => ⟨fun _ => ⟨rgv, ih z ⟨_, hy.keep gz, hz, ky⟩⟩, fun e => absurd rfl e⟩⟩⟩, fun _ => ?_⟩
    refine ⟨fun _ => C_tear hc k fun y hy ky fy => R_tear (hr.keep fy) fun z hz gz => ⟨fun _ => ⟨rgv, ih z ⟨_, hy.keep gz, hz, ky⟩⟩, fun e => absurd rfl e⟩, fun _ => ?_⟩
    refine ⟨fun _ => C_judge hc k (R_judge hr k ⟨fun _ => ⟨rgv, ih x ⟨s, hc, hr, k⟩⟩, fun e => absurd rfl e⟩), fun _ => ?_⟩
    refine ⟨fun _ => ⟨b1, C_seed hc k (hxs _) fun y hy ky fy => ⟨b1, R_seed (hr.keep fy) fun z hz gz => ⟨fun _ => ⟨rgv, ih z ⟨_, hy.keep gz, hz, ky⟩⟩, fun e => absurd rfl e⟩⟩⟩, fun _ => ?_⟩
    refine ⟨fun _ => ⟨b1, C_keep hc k fun y hy ky fy => ⟨b1, R_keep (hr.keep fy) fun z hz gz => ⟨fun _ => ⟨rgv, ih z ⟨_, hy.keep gz, hz, ky⟩⟩, fun e => absurd rfl e⟩⟩⟩, fun _ => ?_⟩
    refine ⟨fun _ => ⟨b1, C_goBack hc k fun y hy ky fy => ⟨b1, R_goBack (hr.keep fy) k fun z hz gz => ⟨fun _ => ⟨rgv, ih z ⟨_, hy.keep gz, hz, ky⟩⟩, fun e => absurd rfl e⟩⟩⟩, fun _ => ?_⟩
    exact ⟨rgv, ih x ⟨s, hc, hr, k⟩⟩
