theorem Jm_ok : ∀ (x : XM) (v : Int) (B : Prop) (P Q : XM → Prop), Inv x → B → (∀ y, Inv y → P y) → M_X10_match x v (fun z1 y => B ∧ M_X11_match y v (fun z2 w => ((z1 = z2 → P w) ∧ (¬ z1 = z2 → Q w)))) := by
  intro x v B P Q ⟨s, hc, hr, k⟩ hB hP
  refine C_match hc k fun y hy hf => ⟨hB, R_match (hr.keep fun k hk => hf k hk) k fun w hw hg => ⟨fun _ => hP w ⟨s, hy.keep fun k hk => hg k hk, hw, k⟩, fun n => absurd rfl n⟩⟩
