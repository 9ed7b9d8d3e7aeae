abbrev XM : Type := Nat → Nat → Int
abbrev NF : Nat := 103
def tid (c : Int) : Nat := if c = 0 then 7 else 72
def wtab : List (Nat × List (Option Nat)) := [(1, [some 2]), (10, [some 11]), (60, [some 61, some 62]), (65, [some 3, some 66, some 67]), (68, [some 3, some 69, some 70, some 71]), (83, [some 84, none, none, none, some 85, none, some 86, none, some 87, none, some 88, none, none, some 89, none, some 90, none, some 91, none, some 92, none, none, none, none, none, some 93, some 94, none, some 95, some 96, some 97, none, some 98, none, some 99, some 100, some 101, some 102, none])]
def wire (x : XM) (k j : Nat) : Option Nat :=
  if (lay k).1 = 2 then (if j = 0 then some (k + 1) else if j = 1 then some (k + 2) else none)
  else if (lay k).1 = 9 then (if j = 0 then some (k + 1) else if j = 1 then some (k + 2) else none)
  else if (lay k).1 = 5 then (if j = 0 then some (k + 1) else none)
  else if (lay k).1 = 20 ∨ (lay k).1 = 21 ∨ (lay k).1 = 22 then none
  else if k = 11 then some (12 + 3 * j)
  else if k = 64 then some (75 + 4 * j)
  else if k = 0 then (if j = 8 then some (tid (x 0 8)) else ([some 1, some 3, some 10, some 60, some 63, some 64, some 65, some 68] : List (Option Nat)).getD j none)
  else if k = 3 then (if j = 1 then some (tid (x 3 1)) else if j = 0 then some 4 else none)
  else ((wtab.lookup k).getD []).getD j none
def mk (Γ : GE) (x : XM) : HP := fun k j => match wire x k j with
  | some r => .ref (gB Γ + r)
  | none => vI (x k j)
theorem mk_some {Γ : GE} {x : XM} {k j r : Nat} (h : wire x k j = some r) : mk Γ x k j = .ref (gB Γ + r) := by unfold mk; rw [h]
theorem mk_none {Γ : GE} {x : XM} {k j : Nat} (h : wire x k j = none) : mk Γ x k j = vI (x k j) := by unfold mk; rw [h]
def uX (x : XM) (k j : Nat) (z : Int) : XM := fun a b => if a = k ∧ b = j then z else x a b
theorem uX_eq {x : XM} {k j : Nat} {z : Int} : uX x k j z k j = z := if_pos ⟨rfl, rfl⟩
theorem uX_ne {x : XM} {k j a b : Nat} {z : Int} (h : ¬ (a = k ∧ b = j)) : uX x k j z a b = x a b := if_neg h
theorem uH_kb {G : HP} {k j b : Nat} {v : Value} : uH G k j v k b = if b = j then v else G k b := by unfold uH; rw [if_pos rfl]
theorem wire_31 {x : XM} : wire x 3 1 = some (tid (x 3 1)) := rfl
theorem wire_08 {x : XM} : wire x 0 8 = some (tid (x 0 8)) := rfl
/-- the wiring hangs on two numbers alone -/
theorem wire_cong {x y : XM} (h1 : y 3 1 = x 3 1) (h2 : y 0 8 = x 0 8) (k j : Nat) : wire y k j = wire x k j := by
  unfold wire
  rw [h1, h2]
theorem wire_uX {x : XM} {k j : Nat} {z : Int} (h : wire x k j = none) (a b : Nat) : wire (uX x k j z) a b = wire x a b := by
  refine wire_cong (uX_ne ?_) (uX_ne ?_) a b
  · rintro ⟨e1, e2⟩
    rw [← e1, ← e2, wire_31] at h
    cases h
  · rintro ⟨e1, e2⟩
    rw [← e1, ← e2, wire_08] at h
    cases h
theorem mk_uX {Γ : GE} {x : XM} {k j : Nat} {z : Int} (h : wire x k j = none) : uH (mk Γ x) k j (vI z) = mk Γ (uX x k j z) := by
  funext a b
  by_cases ha : a = k
  · subst ha
    rw [uH_kb]
    by_cases hb : b = j
    · subst hb
      rw [if_pos rfl, mk_none (by rw [wire_uX h]; exact h), uX_eq]
    · rw [if_neg hb]
      unfold mk
      rw [wire_uX h, uX_ne (fun q => hb q.2)]
  · rw [uH_ne ha]
    unfold mk
    rw [wire_uX h, uX_ne (fun q => ha q.1)]
theorem mk_uT {Γ : GE} {x : XM} {c : Int} : uH (mk Γ x) 3 1 (.ref (gB Γ + tid c)) = mk Γ (uX x 3 1 c) := by
  have hw : ∀ a b, ¬ (a = 3 ∧ b = 1) → wire (uX x 3 1 c) a b = wire x a b := by
    intro a b hab
    by_cases ha : a = 3
    · subst ha
      have hb : ¬ b = 1 := fun q => hab ⟨rfl, q⟩
      unfold wire
      simp [hb, show (lay 3).1 = 0 from rfl]
    · unfold wire
      simp only [ha, if_false]
      rw [uX_ne (by decide)]
  funext a b
  by_cases hab : a = 3 ∧ b = 1
  · obtain ⟨rfl, rfl⟩ := hab
    rw [uH_k, mk_some wire_31, uX_eq]
    rfl
  · have e : mk Γ (uX x 3 1 c) a b = mk Γ x a b := by
      unfold mk
      rw [hw a b hab, uX_ne hab]
    rw [e]
    by_cases ha : a = 3
    · subst ha
      rw [uH_kb, if_neg (fun q => hab ⟨rfl, q⟩)]
    · rw [uH_ne ha]
theorem mk_uS {Γ : GE} {x : XM} {c : Int} : uH (mk Γ x) 0 8 (.ref (gB Γ + tid c)) = mk Γ (uX x 0 8 c) := by
  have hw : ∀ a b, ¬ (a = 0 ∧ b = 8) → wire (uX x 0 8 c) a b = wire x a b := by
    intro a b hab
    by_cases ha : a = 0
    · subst ha
      have hb : ¬ b = 8 := fun q => hab ⟨rfl, q⟩
      unfold wire
      simp [hb, show (lay 0).1 = 10 from rfl]
    · unfold wire
      simp only [ha, if_false]
      rw [uX_ne (by decide)]
  funext a b
  by_cases hab : a = 0 ∧ b = 8
  · obtain ⟨rfl, rfl⟩ := hab
    rw [uH_k, mk_some wire_08, uX_eq]
    rfl
  · have e : mk Γ (uX x 0 8 c) a b = mk Γ x a b := by
      unfold mk
      rw [hw a b hab, uX_ne hab]
    rw [e]
    by_cases ha : a = 0
    · subst ha
      rw [uH_kb, if_neg (fun q => hab ⟨rfl, q⟩)]
    · rw [uH_ne ha]
theorem lay_out {k : Nat} (h : 103 ≤ k) : lay k = (99, 0) := by
  unfold lay
  rw [List.getD_eq_getElem?_getD, List.getElem?_eq_none (by show 103 ≤ k; exact h)]
  rfl
theorem lt_lay {k c : Nat} (h : (lay k).1 = c) (hc : c ≠ 99) : k < NF := by
  rcases Nat.lt_or_ge k 103 with q | q
  · exact q
  · rw [lay_out q] at h
    exact absurd h.symm hc
theorem clo_all : ∀ k, k < 103 → (lay k).1 = 2 → (lay k = (2, 4) ∧ lay (k + 1) = (20, 12) ∧ lay (k + 2) = (20, 6) ∧ k + 2 < 103) := by decide +kernel
theorem clo_f {k : Nat} (h : (lay k).1 = 2) : lay k = (2, 4) ∧ lay (k + 1) = (20, 12) ∧ lay (k + 2) = (20, 6) ∧ k + 2 < 103 := clo_all k (lt_lay h (by decide)) h
theorem img_all : ∀ k, k < 103 → (lay k).1 = 5 → (lay k = (5, 3) ∧ (lay (k + 1)).1 = 2) := by decide +kernel
theorem img_f {k : Nat} (h : (lay k).1 = 5) : lay k = (5, 3) ∧ (lay (k + 1)).1 = 2 := img_all k (lt_lay h (by decide)) h
theorem tid_f (c : Int) : lay (tid c) = (9, 2) ∧ lay (tid c + 1) = (20, 5) ∧ lay (tid c + 2) = (20, 116) ∧ tid c + 2 < 103 := by
  unfold tid
  by_cases h : c = 0
  · rw [if_pos h]; decide +kernel
  · rw [if_neg h]; decide +kernel
theorem clo_w0 {x : XM} {k : Nat} (h : (lay k).1 = 2) : wire x k 0 = some (k + 1) := by unfold wire; rw [if_pos h]; rfl
theorem clo_w1 {x : XM} {k : Nat} (h : (lay k).1 = 2) : wire x k 1 = some (k + 2) := by unfold wire; rw [if_pos h]; rfl
theorem clo_w2 {x : XM} {k : Nat} (h : (lay k).1 = 2) : wire x k 2 = none := by unfold wire; rw [if_pos h]; rfl
theorem clo_w3 {x : XM} {k : Nat} (h : (lay k).1 = 2) : wire x k 3 = none := by unfold wire; rw [if_pos h]; rfl
theorem tid_w0 {x : XM} (c : Int) : wire x (tid c) 0 = some (tid c + 1) := by unfold wire; rw [(tid_f c).1]; rfl
theorem tid_w1 {x : XM} (c : Int) : wire x (tid c) 1 = some (tid c + 2) := by unfold wire; rw [(tid_f c).1]; rfl
theorem img_w0 {x : XM} {k : Nat} (h : (lay k).1 = 5) : wire x k 0 = some (k + 1) := by unfold wire; rw [h]; rfl
theorem img_w1 {x : XM} {k : Nat} (h : (lay k).1 = 5) : wire x k 1 = none := by unfold wire; rw [h]; rfl
theorem img_w2 {x : XM} {k : Nat} (h : (lay k).1 = 5) : wire x k 2 = none := by unfold wire; rw [h]; rfl
theorem ring_k {i : Int} (h0 : 0 ≤ i) (h1 : i < 16) : (lay (12 + 3 * i.toNat)).1 = 2 := by
  have : ∀ j, j < 16 → (lay (12 + 3 * j)).1 = 2 := by decide +kernel
  exact this _ (by omega)
theorem imgs_k {i : Int} (h0 : 0 ≤ i) (h1 : i < 2) : (lay (75 + 4 * i.toNat)).1 = 5 := by
  have : ∀ j, j < 2 → (lay (75 + 4 * j)).1 = 5 := by decide +kernel
  exact this _ (by omega)
theorem arr_w {x : XM} {k j N c : Nat} (h : lay k = (c, N)) (hc : c = 20 ∨ c = 21 ∨ c = 22) : wire x k j = none := by
  unfold wire
  rw [h]
  dsimp only
  rw [if_neg (by omega), if_neg (by omega), if_neg (by omega), if_pos hc]
def WX (x : XM) : Prop := ∀ k j, Rg (x k j)
theorem WX.up {x : XM} {k j : Nat} {z : Int} (h : WX x) (hz : Rg z) : WX (uX x k j z) := by
  intro a b
  unfold uX
  split
  · exact hz
  · exact h a b
theorem rgL {z : Int} (h : (decide (-2147483648 ≤ z) && decide (z < 2147483648)) = true) : Rg z := by
  simp only [Bool.and_eq_true, decide_eq_true_eq] at h
  exact h
def QI (Γ : GE) (x : XM) (q : Int → Prop) : Option Value → HP → Prop := fun v G => G = mk Γ x ∧ ∃ z : Int, v = some (vI z) ∧ Rg z ∧ q z
def QE (Γ : GE) (q : Int → XM → Prop) : Option Value → HP → Prop := fun v G => ∃ (x : XM) (z : Int), G = mk Γ x ∧ WX x ∧ v = some (vI z) ∧ Rg z ∧ q z x
def QU (Γ : GE) (q : XM → Prop) : Option Value → HP → Prop := fun v G => ∃ x : XM, G = mk Γ x ∧ WX x ∧ v = none ∧ q x
theorem V_gI {Γ : GE} {d n0 nE : Nat} {M : MD} {Q : Option Value → HP → Prop} {pc : Nat} {ls st : List Value} {x : XM} {idx ci N j k : Nat} {ty : FieldType} {fin : Bool} (hd : decode M.2.1 pc = .ok (.getfield idx, 3)) (hf : FL M.1.cls idx ci N j ty fin) (hlay : lay k = (ci, N)) (hk : k < NF) (hw : wire x k j = none) (K : V Γ d n0 nE M Q (pc + 3) ls (vI (x k j) :: st) NF (mk Γ x)) : V Γ d n0 nE M Q pc ls (.ref (gB Γ + k) :: st) NF (mk Γ x) := by
  refine V_getf hd hf hlay hk ?_
  rw [mk_none hw]
  exact K
theorem V_gR {Γ : GE} {d n0 nE : Nat} {M : MD} {Q : Option Value → HP → Prop} {pc : Nat} {ls st : List Value} {x : XM} {idx ci N j k r : Nat} {ty : FieldType} {fin : Bool} (hd : decode M.2.1 pc = .ok (.getfield idx, 3)) (hf : FL M.1.cls idx ci N j ty fin) (hlay : lay k = (ci, N)) (hk : k < NF) (hw : wire x k j = some r) (K : V Γ d n0 nE M Q (pc + 3) ls (.ref (gB Γ + r) :: st) NF (mk Γ x)) : V Γ d n0 nE M Q pc ls (.ref (gB Γ + k) :: st) NF (mk Γ x) := by
  refine V_getf hd hf hlay hk ?_
  rw [mk_some hw]
  exact K
theorem V_pI {Γ : GE} {d n0 nE : Nat} {M : MD} {Q : Option Value → HP → Prop} {pc : Nat} {ls st : List Value} {x : XM} {idx ci N j k : Nat} {z : Int} (hd : decode M.2.1 pc = .ok (.putfield idx, 3)) (hf : FL M.1.cls idx ci N j .int false) (hlay : lay k = (ci, N)) (hk : k < NF) (hw : wire x k j = none) (K : V Γ d n0 nE M Q (pc + 3) ls st NF (mk Γ (uX x k j z))) : V Γ d n0 nE M Q pc ls (vI z :: .ref (gB Γ + k) :: st) NF (mk Γ x) := by
  refine V_putf hd hf hlay hk (vp_nar_int _) rfl ?_
  rw [mk_uX hw]
  exact K
theorem V_pZ {Γ : GE} {d n0 nE : Nat} {M : MD} {Q : Option Value → HP → Prop} {pc : Nat} {ls st : List Value} {x : XM} {idx ci N j k : Nat} {z : Int} (hd : decode M.2.1 pc = .ok (.putfield idx, 3)) (hf : FL M.1.cls idx ci N j .boolean false) (hlay : lay k = (ci, N)) (hk : k < NF) (hw : wire x k j = none) (hz : z = 0 ∨ z = 1) (K : V Γ d n0 nE M Q (pc + 3) ls st NF (mk Γ (uX x k j z))) : V Γ d n0 nE M Q pc ls (vI z :: .ref (gB Γ + k) :: st) NF (mk Γ x) := by
  refine V_putf hd hf hlay hk (by rcases hz with rfl | rfl <;> rfl) (by rcases hz with rfl | rfl <;> rfl) ?_
  rw [mk_uX hw]
  exact K
theorem V_pT {Γ : GE} {d n0 nE : Nat} {M : MD} {Q : Option Value → HP → Prop} {pc : Nat} {ls st : List Value} {x : XM} {idx : Nat} {c9 : Int} (hd : decode M.2.1 pc = .ok (.putfield idx, 3)) (hf : FL M.1.cls idx 0 2 1 (.object "ButtonTin$Telling") false) (K : V Γ d n0 nE M Q (pc + 3) ls st NF (mk Γ (uX x 3 1 c9))) : V Γ d n0 nE M Q pc ls (.ref (gB Γ + tid c9) :: .ref (gB Γ + 3) :: st) NF (mk Γ x) := by
  refine V_putf hd hf rfl (by decide) rfl rfl ?_
  rw [mk_uT]
  exact K
theorem V_pS {Γ : GE} {d n0 nE : Nat} {M : MD} {Q : Option Value → HP → Prop} {pc : Nat} {ls st : List Value} {x : XM} {idx : Nat} {c9 : Int} (hd : decode M.2.1 pc = .ok (.putfield idx, 3)) (hf : FL M.1.cls idx 10 10 8 (.object "ButtonTin$Telling") false) (K : V Γ d n0 nE M Q (pc + 3) ls st NF (mk Γ (uX x 0 8 c9))) : V Γ d n0 nE M Q pc ls (.ref (gB Γ + tid c9) :: .ref (gB Γ + 0) :: st) NF (mk Γ x) := by
  refine V_putf hd hf rfl (by decide) rfl rfl ?_
  rw [mk_uS]
  exact K
theorem V_aI {Γ : GE} {d n0 nE : Nat} {M : MD} {Q : Option Value → HP → Prop} {pc : Nat} {ls st : List Value} {x : XM} {k N : Nat} {i : Int} (hd : decode M.2.1 pc = .ok (.iaload, 1)) (hlay : lay k = (20, N)) (hk : k < NF) (hN : N < 2147483648) (h0 : 0 ≤ i ∧ i < (N : Int)) (K : V Γ d n0 nE M Q (pc + 1) ls (vI (x k i.toNat) :: st) NF (mk Γ x)) : V Γ d n0 nE M Q pc ls (vI i :: .ref (gB Γ + k) :: st) NF (mk Γ x) := by
  refine V_iald hd hlay hk hN h0.1 h0.2 ?_
  rw [mk_none (arr_w hlay (by decide))]
  exact K
theorem V_aZ {Γ : GE} {d n0 nE : Nat} {M : MD} {Q : Option Value → HP → Prop} {pc : Nat} {ls st : List Value} {x : XM} {k N : Nat} {i : Int} (hd : decode M.2.1 pc = .ok (.baload, 1)) (hlay : lay k = (21, N)) (hk : k < NF) (hN : N < 2147483648) (h0 : 0 ≤ i ∧ i < (N : Int)) (K : V Γ d n0 nE M Q (pc + 1) ls (vI (x k i.toNat) :: st) NF (mk Γ x)) : V Γ d n0 nE M Q pc ls (vI i :: .ref (gB Γ + k) :: st) NF (mk Γ x) := by
  refine V_zald hd hlay hk hN h0.1 h0.2 ?_
  rw [mk_none (arr_w hlay (by decide))]
  exact K
theorem V_aB {Γ : GE} {d n0 nE : Nat} {M : MD} {Q : Option Value → HP → Prop} {pc : Nat} {ls st : List Value} {x : XM} {k N : Nat} {i : Int} (hd : decode M.2.1 pc = .ok (.baload, 1)) (hlay : lay k = (22, N)) (hk : k < NF) (hN : N < 2147483648) (h0 : 0 ≤ i ∧ i < (N : Int)) (K : V Γ d n0 nE M Q (pc + 1) ls (vI (x k i.toNat) :: st) NF (mk Γ x)) : V Γ d n0 nE M Q pc ls (vI i :: .ref (gB Γ + k) :: st) NF (mk Γ x) := by
  refine V_bald hd hlay hk hN h0.1 h0.2 ?_
  rw [mk_none (arr_w hlay (by decide))]
  exact K
theorem V_sI {Γ : GE} {d n0 nE : Nat} {M : MD} {Q : Option Value → HP → Prop} {pc : Nat} {ls st : List Value} {x : XM} {k N : Nat} {i z : Int} (hd : decode M.2.1 pc = .ok (.iastore, 1)) (hlay : lay k = (20, N)) (hk : k < NF) (hN : N < 2147483648) (h0 : 0 ≤ i ∧ i < (N : Int)) (K : V Γ d n0 nE M Q (pc + 1) ls st NF (mk Γ (uX x k i.toNat z))) : V Γ d n0 nE M Q pc ls (vI z :: vI i :: .ref (gB Γ + k) :: st) NF (mk Γ x) := by
  refine V_iast hd hlay hk hN h0.1 h0.2  ?_
  rw [mk_uX (arr_w hlay (by decide))]
  exact K
theorem V_sZ {Γ : GE} {d n0 nE : Nat} {M : MD} {Q : Option Value → HP → Prop} {pc : Nat} {ls st : List Value} {x : XM} {k N : Nat} {i z : Int} (hd : decode M.2.1 pc = .ok (.bastore, 1)) (hlay : lay k = (21, N)) (hk : k < NF) (hN : N < 2147483648) (h0 : 0 ≤ i ∧ i < (N : Int)) (hz : z = 0 ∨ z = 1) (K : V Γ d n0 nE M Q (pc + 1) ls st NF (mk Γ (uX x k i.toNat z))) : V Γ d n0 nE M Q pc ls (vI z :: vI i :: .ref (gB Γ + k) :: st) NF (mk Γ x) := by
  refine V_zast hd hlay hk hN h0.1 h0.2 (by rcases hz with rfl | rfl <;> rfl) ?_
  rw [mk_uX (arr_w hlay (by decide))]
  exact K
theorem V_sB {Γ : GE} {d n0 nE : Nat} {M : MD} {Q : Option Value → HP → Prop} {pc : Nat} {ls st : List Value} {x : XM} {k N : Nat} {i z : Int} (hd : decode M.2.1 pc = .ok (.bastore, 1)) (hlay : lay k = (22, N)) (hk : k < NF) (hN : N < 2147483648) (h0 : 0 ≤ i ∧ i < (N : Int)) (hz : vp_nar .byte (Int32.ofInt z) = Int32.ofInt z) (K : V Γ d n0 nE M Q (pc + 1) ls st NF (mk Γ (uX x k i.toNat z))) : V Γ d n0 nE M Q pc ls (vI z :: vI i :: .ref (gB Γ + k) :: st) NF (mk Γ x) := by
  refine V_bast hd hlay hk hN h0.1 h0.2 hz ?_
  rw [mk_uX (arr_w hlay (by decide))]
  exact K
theorem V_aC {Γ : GE} {d n0 nE : Nat} {M : MD} {Q : Option Value → HP → Prop} {pc : Nat} {ls st : List Value} {x : XM} {i : Int} (hd : decode M.2.1 pc = .ok (.aaload, 1)) (h0 : 0 ≤ i ∧ i < 16) (K : V Γ d n0 nE M Q (pc + 1) ls (.ref (gB Γ + (12 + 3 * i.toNat)) :: st) NF (mk Γ x)) : V Γ d n0 nE M Q pc ls (vI i :: .ref (gB Γ + 11) :: st) NF (mk Γ x) :=
  V_aald3 (N := 16) hd rfl (by decide) (by decide) h0.1 h0.2 rfl K
theorem V_aM {Γ : GE} {d n0 nE : Nat} {M : MD} {Q : Option Value → HP → Prop} {pc : Nat} {ls st : List Value} {x : XM} {i : Int} (hd : decode M.2.1 pc = .ok (.aaload, 1)) (h0 : 0 ≤ i ∧ i < 2) (K : V Γ d n0 nE M Q (pc + 1) ls (.ref (gB Γ + (75 + 4 * i.toNat)) :: st) NF (mk Γ x)) : V Γ d n0 nE M Q pc ls (vI i :: .ref (gB Γ + 64) :: st) NF (mk Γ x) :=
  V_aald4 (N := 2) hd rfl (by decide) (by decide) h0.1 h0.2 rfl K
def cpX (x : XM) (k0 k1 N : Nat) : XM := fun a b => if a = k1 ∧ b < N then x k0 b else x a b
theorem WX.cp {x : XM} {k0 k1 N : Nat} (h : WX x) : WX (cpX x k0 k1 N) := by
  intro a b
  unfold cpX
  split
  · exact h _ _
  · exact h a b
theorem Rl_same {Γ : GE} {n : Nat} {G G2 : HP} {H : Heap} (h : Rl Γ n G H) (e : wsG Γ n G2 = wsG Γ n G) : Rl Γ n G2 H := by
  unfold Rl
  rw [e]
  exact h
/-- the whole of an array copied into one of its length -/
theorem V_cp {Γ : GE} {d n0 nE : Nat} {M : MD} {Q : Option Value → HP → Prop} {pc : Nat} {ls st : List Value} {x : XM} {idx k0 k1 N : Nat} (hd : decode M.2.1 pc = .ok (.invokestatic idx, 3)) (hw : Cond.methodLink M.1.cls idx arraycopyName ∈ gw) (hlay0 : lay k0 = (20, N)) (hlay1 : lay k1 = (20, N)) (hk0 : k0 < NF) (hk1 : k1 < NF) (hN : N < 2147483648) (hdd : 1 ≤ d) (hsum : (st.map fun v => v.category).sum ≤ 8) (h31 : k1 ≠ 3) (h08 : k1 ≠ 0) (K : V Γ d n0 nE M Q (pc + 3) ls st NF (mk Γ (cpX x k0 k1 N))) : V Γ d n0 nE M Q pc ls (vI (N : Int) :: vI 0 :: .ref (gB Γ + k1) :: vI 0 :: .ref (gB Γ + k0) :: st) NF (mk Γ x) := by
  refine V_copy (m9 := N) hd hw ac_1 ac_2 ac_3 hlay0 hlay1 hk0 hk1 (Nat.le_refl N) hN hdd hsum ?_
  intro p l e R s m args below meth c Fin C H locs lsA hl hR hS
  refine K p l e R s m args below meth c Fin C H locs lsA hl (Rl_same hR ?_) hS
  unfold wsG
  apply List.map_congr_left
  intro k hk
  congr 1
  by_cases hkk : k = k1
  · subst hkk
    rw [nH_k, hlay1, ent_int, ent_int]
    have hcell : (fun j => i32 (mk Γ (cpX x k0 k N) k j)) = (fun j => i32 (if j < N then mk Γ x k0 j else mk Γ x k j)) := by
      funext j
      rw [mk_none (arr_w hlay1 (by decide)), mk_none (arr_w hlay0 (by decide)), mk_none (arr_w hlay1 (by decide))]
      unfold cpX
      by_cases hj : j < N
      · rw [if_pos ⟨rfl, hj⟩, if_pos hj]
      · rw [if_neg (fun q => hj q.2), if_neg hj]
    rw [hcell]
  · rw [nH_ne hkk]
    congr 1
    funext j
    unfold mk
    rw [wire_cong (x := x) (y := cpX x k0 k1 N) (by unfold cpX; rw [if_neg (fun q => h31 q.1.symm)]) (by unfold cpX; rw [if_neg (fun q => h08 q.1.symm)])]
    unfold cpX
    rw [if_neg (fun q => hkk q.1)]
theorem V_cVI0 {Γ : GE} {d n0 nE : Nat} {M : MD} {Q : Option Value → HP → Prop} {pc : Nat} {ls st : List Value} {x : XM} {idx kid ci N dc : Nat} {My : MD}  {q : Int → Prop} (hd : decode M.2.1 pc = .ok (.invokevirtual idx, 3)) (hlk : Cond.methodLink M.1.cls idx My.1 ∈ gw) (hce : CeV My 0) (hlay : lay kid = (ci, N)) (hci : ci < 20) (hcl : ∃ T, vwCl[ci]? = some (My.1.cls, T, N)) (hk : kid < NF) (h0 : n0 ≤ NF) (h2 : NF ≤ nE) (hdd : dc + 1 ≤ d) (hsum : (st.map fun v => v.category).sum ≤ 8) (hC : CV Γ dc NF NF My (.ref (gB Γ + kid) :: []) (mk Γ x) (QI Γ x q)) (K : ∀ z : Int, Rg z → q z → V Γ d n0 nE M Q (pc + 3) ls (vI z :: st) NF (mk Γ x)) : V Γ d n0 nE M Q pc ls (.ref (gB Γ + kid) :: st) NF (mk Γ x) := by
  refine V_callV (As := []) hd hlk hce rfl hlay hci hcl hk h0 (Nat.le_refl _) h2 hdd hsum hC (fun v G hq => ?_)
  obtain ⟨rfl, z, rfl, hz, hq⟩ := hq
  exact K z hz hq
theorem V_cVE0 {Γ : GE} {d n0 nE : Nat} {M : MD} {Q : Option Value → HP → Prop} {pc : Nat} {ls st : List Value} {x : XM} {idx kid ci N dc : Nat} {My : MD}  {q : Int → XM → Prop} (hd : decode M.2.1 pc = .ok (.invokevirtual idx, 3)) (hlk : Cond.methodLink M.1.cls idx My.1 ∈ gw) (hce : CeV My 0) (hlay : lay kid = (ci, N)) (hci : ci < 20) (hcl : ∃ T, vwCl[ci]? = some (My.1.cls, T, N)) (hk : kid < NF) (h0 : n0 ≤ NF) (h2 : NF ≤ nE) (hdd : dc + 1 ≤ d) (hsum : (st.map fun v => v.category).sum ≤ 8) (hC : CV Γ dc NF NF My (.ref (gB Γ + kid) :: []) (mk Γ x) (QE Γ q)) (K : ∀ (z : Int) (x1 : XM), WX x1 → Rg z → q z x1 → V Γ d n0 nE M Q (pc + 3) ls (vI z :: st) NF (mk Γ x1)) : V Γ d n0 nE M Q pc ls (.ref (gB Γ + kid) :: st) NF (mk Γ x) := by
  refine V_callV (As := []) hd hlk hce rfl hlay hci hcl hk h0 (Nat.le_refl _) h2 hdd hsum hC (fun v G hq => ?_)
  obtain ⟨x1, z, rfl, hx, rfl, hz, hq⟩ := hq
  exact K z x1 hx hz hq
theorem V_cVU0 {Γ : GE} {d n0 nE : Nat} {M : MD} {Q : Option Value → HP → Prop} {pc : Nat} {ls st : List Value} {x : XM} {idx kid ci N dc : Nat} {My : MD}  {q : XM → Prop} (hd : decode M.2.1 pc = .ok (.invokevirtual idx, 3)) (hlk : Cond.methodLink M.1.cls idx My.1 ∈ gw) (hce : CeV My 0) (hlay : lay kid = (ci, N)) (hci : ci < 20) (hcl : ∃ T, vwCl[ci]? = some (My.1.cls, T, N)) (hk : kid < NF) (h0 : n0 ≤ NF) (h2 : NF ≤ nE) (hdd : dc + 1 ≤ d) (hsum : (st.map fun v => v.category).sum ≤ 8) (hC : CV Γ dc NF NF My (.ref (gB Γ + kid) :: []) (mk Γ x) (QU Γ q)) (K : ∀ x1 : XM, WX x1 → q x1 → V Γ d n0 nE M Q (pc + 3) ls st NF (mk Γ x1)) : V Γ d n0 nE M Q pc ls (.ref (gB Γ + kid) :: st) NF (mk Γ x) := by
  refine V_callV (As := []) hd hlk hce rfl hlay hci hcl hk h0 (Nat.le_refl _) h2 hdd hsum hC (fun v G hq => ?_)
  obtain ⟨x1, rfl, hx, rfl, hq⟩ := hq
  exact K x1 hx hq
theorem V_cVI1 {Γ : GE} {d n0 nE : Nat} {M : MD} {Q : Option Value → HP → Prop} {pc : Nat} {ls st : List Value} {x : XM} {idx kid ci N dc : Nat} {My : MD} {a1 : Value} {q : Int → Prop} (hd : decode M.2.1 pc = .ok (.invokevirtual idx, 3)) (hlk : Cond.methodLink M.1.cls idx My.1 ∈ gw) (hce : CeV My 1) (hlay : lay kid = (ci, N)) (hci : ci < 20) (hcl : ∃ T, vwCl[ci]? = some (My.1.cls, T, N)) (hk : kid < NF) (h0 : n0 ≤ NF) (h2 : NF ≤ nE) (hdd : dc + 1 ≤ d) (hsum : (st.map fun v => v.category).sum ≤ 8) (hC : CV Γ dc NF NF My (.ref (gB Γ + kid) :: [a1]) (mk Γ x) (QI Γ x q)) (K : ∀ z : Int, Rg z → q z → V Γ d n0 nE M Q (pc + 3) ls (vI z :: st) NF (mk Γ x)) : V Γ d n0 nE M Q pc ls (a1 :: .ref (gB Γ + kid) :: st) NF (mk Γ x) := by
  refine V_callV (As := [a1]) hd hlk hce rfl hlay hci hcl hk h0 (Nat.le_refl _) h2 hdd hsum hC (fun v G hq => ?_)
  obtain ⟨rfl, z, rfl, hz, hq⟩ := hq
  exact K z hz hq
theorem V_cVE1 {Γ : GE} {d n0 nE : Nat} {M : MD} {Q : Option Value → HP → Prop} {pc : Nat} {ls st : List Value} {x : XM} {idx kid ci N dc : Nat} {My : MD} {a1 : Value} {q : Int → XM → Prop} (hd : decode M.2.1 pc = .ok (.invokevirtual idx, 3)) (hlk : Cond.methodLink M.1.cls idx My.1 ∈ gw) (hce : CeV My 1) (hlay : lay kid = (ci, N)) (hci : ci < 20) (hcl : ∃ T, vwCl[ci]? = some (My.1.cls, T, N)) (hk : kid < NF) (h0 : n0 ≤ NF) (h2 : NF ≤ nE) (hdd : dc + 1 ≤ d) (hsum : (st.map fun v => v.category).sum ≤ 8) (hC : CV Γ dc NF NF My (.ref (gB Γ + kid) :: [a1]) (mk Γ x) (QE Γ q)) (K : ∀ (z : Int) (x1 : XM), WX x1 → Rg z → q z x1 → V Γ d n0 nE M Q (pc + 3) ls (vI z :: st) NF (mk Γ x1)) : V Γ d n0 nE M Q pc ls (a1 :: .ref (gB Γ + kid) :: st) NF (mk Γ x) := by
  refine V_callV (As := [a1]) hd hlk hce rfl hlay hci hcl hk h0 (Nat.le_refl _) h2 hdd hsum hC (fun v G hq => ?_)
  obtain ⟨x1, z, rfl, hx, rfl, hz, hq⟩ := hq
  exact K z x1 hx hz hq
theorem V_cVU1 {Γ : GE} {d n0 nE : Nat} {M : MD} {Q : Option Value → HP → Prop} {pc : Nat} {ls st : List Value} {x : XM} {idx kid ci N dc : Nat} {My : MD} {a1 : Value} {q : XM → Prop} (hd : decode M.2.1 pc = .ok (.invokevirtual idx, 3)) (hlk : Cond.methodLink M.1.cls idx My.1 ∈ gw) (hce : CeV My 1) (hlay : lay kid = (ci, N)) (hci : ci < 20) (hcl : ∃ T, vwCl[ci]? = some (My.1.cls, T, N)) (hk : kid < NF) (h0 : n0 ≤ NF) (h2 : NF ≤ nE) (hdd : dc + 1 ≤ d) (hsum : (st.map fun v => v.category).sum ≤ 8) (hC : CV Γ dc NF NF My (.ref (gB Γ + kid) :: [a1]) (mk Γ x) (QU Γ q)) (K : ∀ x1 : XM, WX x1 → q x1 → V Γ d n0 nE M Q (pc + 3) ls st NF (mk Γ x1)) : V Γ d n0 nE M Q pc ls (a1 :: .ref (gB Γ + kid) :: st) NF (mk Γ x) := by
  refine V_callV (As := [a1]) hd hlk hce rfl hlay hci hcl hk h0 (Nat.le_refl _) h2 hdd hsum hC (fun v G hq => ?_)
  obtain ⟨x1, rfl, hx, rfl, hq⟩ := hq
  exact K x1 hx hq
theorem V_cVI2 {Γ : GE} {d n0 nE : Nat} {M : MD} {Q : Option Value → HP → Prop} {pc : Nat} {ls st : List Value} {x : XM} {idx kid ci N dc : Nat} {My : MD} {a1 a2 : Value} {q : Int → Prop} (hd : decode M.2.1 pc = .ok (.invokevirtual idx, 3)) (hlk : Cond.methodLink M.1.cls idx My.1 ∈ gw) (hce : CeV My 2) (hlay : lay kid = (ci, N)) (hci : ci < 20) (hcl : ∃ T, vwCl[ci]? = some (My.1.cls, T, N)) (hk : kid < NF) (h0 : n0 ≤ NF) (h2 : NF ≤ nE) (hdd : dc + 1 ≤ d) (hsum : (st.map fun v => v.category).sum ≤ 8) (hC : CV Γ dc NF NF My (.ref (gB Γ + kid) :: [a1, a2]) (mk Γ x) (QI Γ x q)) (K : ∀ z : Int, Rg z → q z → V Γ d n0 nE M Q (pc + 3) ls (vI z :: st) NF (mk Γ x)) : V Γ d n0 nE M Q pc ls (a2 :: a1 :: .ref (gB Γ + kid) :: st) NF (mk Γ x) := by
  refine V_callV (As := [a1, a2]) hd hlk hce rfl hlay hci hcl hk h0 (Nat.le_refl _) h2 hdd hsum hC (fun v G hq => ?_)
  obtain ⟨rfl, z, rfl, hz, hq⟩ := hq
  exact K z hz hq
theorem V_cVE2 {Γ : GE} {d n0 nE : Nat} {M : MD} {Q : Option Value → HP → Prop} {pc : Nat} {ls st : List Value} {x : XM} {idx kid ci N dc : Nat} {My : MD} {a1 a2 : Value} {q : Int → XM → Prop} (hd : decode M.2.1 pc = .ok (.invokevirtual idx, 3)) (hlk : Cond.methodLink M.1.cls idx My.1 ∈ gw) (hce : CeV My 2) (hlay : lay kid = (ci, N)) (hci : ci < 20) (hcl : ∃ T, vwCl[ci]? = some (My.1.cls, T, N)) (hk : kid < NF) (h0 : n0 ≤ NF) (h2 : NF ≤ nE) (hdd : dc + 1 ≤ d) (hsum : (st.map fun v => v.category).sum ≤ 8) (hC : CV Γ dc NF NF My (.ref (gB Γ + kid) :: [a1, a2]) (mk Γ x) (QE Γ q)) (K : ∀ (z : Int) (x1 : XM), WX x1 → Rg z → q z x1 → V Γ d n0 nE M Q (pc + 3) ls (vI z :: st) NF (mk Γ x1)) : V Γ d n0 nE M Q pc ls (a2 :: a1 :: .ref (gB Γ + kid) :: st) NF (mk Γ x) := by
  refine V_callV (As := [a1, a2]) hd hlk hce rfl hlay hci hcl hk h0 (Nat.le_refl _) h2 hdd hsum hC (fun v G hq => ?_)
  obtain ⟨x1, z, rfl, hx, rfl, hz, hq⟩ := hq
  exact K z x1 hx hz hq
theorem V_cVU2 {Γ : GE} {d n0 nE : Nat} {M : MD} {Q : Option Value → HP → Prop} {pc : Nat} {ls st : List Value} {x : XM} {idx kid ci N dc : Nat} {My : MD} {a1 a2 : Value} {q : XM → Prop} (hd : decode M.2.1 pc = .ok (.invokevirtual idx, 3)) (hlk : Cond.methodLink M.1.cls idx My.1 ∈ gw) (hce : CeV My 2) (hlay : lay kid = (ci, N)) (hci : ci < 20) (hcl : ∃ T, vwCl[ci]? = some (My.1.cls, T, N)) (hk : kid < NF) (h0 : n0 ≤ NF) (h2 : NF ≤ nE) (hdd : dc + 1 ≤ d) (hsum : (st.map fun v => v.category).sum ≤ 8) (hC : CV Γ dc NF NF My (.ref (gB Γ + kid) :: [a1, a2]) (mk Γ x) (QU Γ q)) (K : ∀ x1 : XM, WX x1 → q x1 → V Γ d n0 nE M Q (pc + 3) ls st NF (mk Γ x1)) : V Γ d n0 nE M Q pc ls (a2 :: a1 :: .ref (gB Γ + kid) :: st) NF (mk Γ x) := by
  refine V_callV (As := [a1, a2]) hd hlk hce rfl hlay hci hcl hk h0 (Nat.le_refl _) h2 hdd hsum hC (fun v G hq => ?_)
  obtain ⟨x1, rfl, hx, rfl, hq⟩ := hq
  exact K x1 hx hq
theorem V_cVI3 {Γ : GE} {d n0 nE : Nat} {M : MD} {Q : Option Value → HP → Prop} {pc : Nat} {ls st : List Value} {x : XM} {idx kid ci N dc : Nat} {My : MD} {a1 a2 a3 : Value} {q : Int → Prop} (hd : decode M.2.1 pc = .ok (.invokevirtual idx, 3)) (hlk : Cond.methodLink M.1.cls idx My.1 ∈ gw) (hce : CeV My 3) (hlay : lay kid = (ci, N)) (hci : ci < 20) (hcl : ∃ T, vwCl[ci]? = some (My.1.cls, T, N)) (hk : kid < NF) (h0 : n0 ≤ NF) (h2 : NF ≤ nE) (hdd : dc + 1 ≤ d) (hsum : (st.map fun v => v.category).sum ≤ 8) (hC : CV Γ dc NF NF My (.ref (gB Γ + kid) :: [a1, a2, a3]) (mk Γ x) (QI Γ x q)) (K : ∀ z : Int, Rg z → q z → V Γ d n0 nE M Q (pc + 3) ls (vI z :: st) NF (mk Γ x)) : V Γ d n0 nE M Q pc ls (a3 :: a2 :: a1 :: .ref (gB Γ + kid) :: st) NF (mk Γ x) := by
  refine V_callV (As := [a1, a2, a3]) hd hlk hce rfl hlay hci hcl hk h0 (Nat.le_refl _) h2 hdd hsum hC (fun v G hq => ?_)
  obtain ⟨rfl, z, rfl, hz, hq⟩ := hq
  exact K z hz hq
theorem V_cVE3 {Γ : GE} {d n0 nE : Nat} {M : MD} {Q : Option Value → HP → Prop} {pc : Nat} {ls st : List Value} {x : XM} {idx kid ci N dc : Nat} {My : MD} {a1 a2 a3 : Value} {q : Int → XM → Prop} (hd : decode M.2.1 pc = .ok (.invokevirtual idx, 3)) (hlk : Cond.methodLink M.1.cls idx My.1 ∈ gw) (hce : CeV My 3) (hlay : lay kid = (ci, N)) (hci : ci < 20) (hcl : ∃ T, vwCl[ci]? = some (My.1.cls, T, N)) (hk : kid < NF) (h0 : n0 ≤ NF) (h2 : NF ≤ nE) (hdd : dc + 1 ≤ d) (hsum : (st.map fun v => v.category).sum ≤ 8) (hC : CV Γ dc NF NF My (.ref (gB Γ + kid) :: [a1, a2, a3]) (mk Γ x) (QE Γ q)) (K : ∀ (z : Int) (x1 : XM), WX x1 → Rg z → q z x1 → V Γ d n0 nE M Q (pc + 3) ls (vI z :: st) NF (mk Γ x1)) : V Γ d n0 nE M Q pc ls (a3 :: a2 :: a1 :: .ref (gB Γ + kid) :: st) NF (mk Γ x) := by
  refine V_callV (As := [a1, a2, a3]) hd hlk hce rfl hlay hci hcl hk h0 (Nat.le_refl _) h2 hdd hsum hC (fun v G hq => ?_)
  obtain ⟨x1, z, rfl, hx, rfl, hz, hq⟩ := hq
  exact K z x1 hx hz hq
theorem V_cVU3 {Γ : GE} {d n0 nE : Nat} {M : MD} {Q : Option Value → HP → Prop} {pc : Nat} {ls st : List Value} {x : XM} {idx kid ci N dc : Nat} {My : MD} {a1 a2 a3 : Value} {q : XM → Prop} (hd : decode M.2.1 pc = .ok (.invokevirtual idx, 3)) (hlk : Cond.methodLink M.1.cls idx My.1 ∈ gw) (hce : CeV My 3) (hlay : lay kid = (ci, N)) (hci : ci < 20) (hcl : ∃ T, vwCl[ci]? = some (My.1.cls, T, N)) (hk : kid < NF) (h0 : n0 ≤ NF) (h2 : NF ≤ nE) (hdd : dc + 1 ≤ d) (hsum : (st.map fun v => v.category).sum ≤ 8) (hC : CV Γ dc NF NF My (.ref (gB Γ + kid) :: [a1, a2, a3]) (mk Γ x) (QU Γ q)) (K : ∀ x1 : XM, WX x1 → q x1 → V Γ d n0 nE M Q (pc + 3) ls st NF (mk Γ x1)) : V Γ d n0 nE M Q pc ls (a3 :: a2 :: a1 :: .ref (gB Γ + kid) :: st) NF (mk Γ x) := by
  refine V_callV (As := [a1, a2, a3]) hd hlk hce rfl hlay hci hcl hk h0 (Nat.le_refl _) h2 hdd hsum hC (fun v G hq => ?_)
  obtain ⟨x1, rfl, hx, rfl, hq⟩ := hq
  exact K x1 hx hq
theorem V_cVI4 {Γ : GE} {d n0 nE : Nat} {M : MD} {Q : Option Value → HP → Prop} {pc : Nat} {ls st : List Value} {x : XM} {idx kid ci N dc : Nat} {My : MD} {a1 a2 a3 a4 : Value} {q : Int → Prop} (hd : decode M.2.1 pc = .ok (.invokevirtual idx, 3)) (hlk : Cond.methodLink M.1.cls idx My.1 ∈ gw) (hce : CeV My 4) (hlay : lay kid = (ci, N)) (hci : ci < 20) (hcl : ∃ T, vwCl[ci]? = some (My.1.cls, T, N)) (hk : kid < NF) (h0 : n0 ≤ NF) (h2 : NF ≤ nE) (hdd : dc + 1 ≤ d) (hsum : (st.map fun v => v.category).sum ≤ 8) (hC : CV Γ dc NF NF My (.ref (gB Γ + kid) :: [a1, a2, a3, a4]) (mk Γ x) (QI Γ x q)) (K : ∀ z : Int, Rg z → q z → V Γ d n0 nE M Q (pc + 3) ls (vI z :: st) NF (mk Γ x)) : V Γ d n0 nE M Q pc ls (a4 :: a3 :: a2 :: a1 :: .ref (gB Γ + kid) :: st) NF (mk Γ x) := by
  refine V_callV (As := [a1, a2, a3, a4]) hd hlk hce rfl hlay hci hcl hk h0 (Nat.le_refl _) h2 hdd hsum hC (fun v G hq => ?_)
  obtain ⟨rfl, z, rfl, hz, hq⟩ := hq
  exact K z hz hq
theorem V_cVE4 {Γ : GE} {d n0 nE : Nat} {M : MD} {Q : Option Value → HP → Prop} {pc : Nat} {ls st : List Value} {x : XM} {idx kid ci N dc : Nat} {My : MD} {a1 a2 a3 a4 : Value} {q : Int → XM → Prop} (hd : decode M.2.1 pc = .ok (.invokevirtual idx, 3)) (hlk : Cond.methodLink M.1.cls idx My.1 ∈ gw) (hce : CeV My 4) (hlay : lay kid = (ci, N)) (hci : ci < 20) (hcl : ∃ T, vwCl[ci]? = some (My.1.cls, T, N)) (hk : kid < NF) (h0 : n0 ≤ NF) (h2 : NF ≤ nE) (hdd : dc + 1 ≤ d) (hsum : (st.map fun v => v.category).sum ≤ 8) (hC : CV Γ dc NF NF My (.ref (gB Γ + kid) :: [a1, a2, a3, a4]) (mk Γ x) (QE Γ q)) (K : ∀ (z : Int) (x1 : XM), WX x1 → Rg z → q z x1 → V Γ d n0 nE M Q (pc + 3) ls (vI z :: st) NF (mk Γ x1)) : V Γ d n0 nE M Q pc ls (a4 :: a3 :: a2 :: a1 :: .ref (gB Γ + kid) :: st) NF (mk Γ x) := by
  refine V_callV (As := [a1, a2, a3, a4]) hd hlk hce rfl hlay hci hcl hk h0 (Nat.le_refl _) h2 hdd hsum hC (fun v G hq => ?_)
  obtain ⟨x1, z, rfl, hx, rfl, hz, hq⟩ := hq
  exact K z x1 hx hz hq
theorem V_cVU4 {Γ : GE} {d n0 nE : Nat} {M : MD} {Q : Option Value → HP → Prop} {pc : Nat} {ls st : List Value} {x : XM} {idx kid ci N dc : Nat} {My : MD} {a1 a2 a3 a4 : Value} {q : XM → Prop} (hd : decode M.2.1 pc = .ok (.invokevirtual idx, 3)) (hlk : Cond.methodLink M.1.cls idx My.1 ∈ gw) (hce : CeV My 4) (hlay : lay kid = (ci, N)) (hci : ci < 20) (hcl : ∃ T, vwCl[ci]? = some (My.1.cls, T, N)) (hk : kid < NF) (h0 : n0 ≤ NF) (h2 : NF ≤ nE) (hdd : dc + 1 ≤ d) (hsum : (st.map fun v => v.category).sum ≤ 8) (hC : CV Γ dc NF NF My (.ref (gB Γ + kid) :: [a1, a2, a3, a4]) (mk Γ x) (QU Γ q)) (K : ∀ x1 : XM, WX x1 → q x1 → V Γ d n0 nE M Q (pc + 3) ls st NF (mk Γ x1)) : V Γ d n0 nE M Q pc ls (a4 :: a3 :: a2 :: a1 :: .ref (gB Γ + kid) :: st) NF (mk Γ x) := by
  refine V_callV (As := [a1, a2, a3, a4]) hd hlk hce rfl hlay hci hcl hk h0 (Nat.le_refl _) h2 hdd hsum hC (fun v G hq => ?_)
  obtain ⟨x1, rfl, hx, rfl, hq⟩ := hq
  exact K x1 hx hq
theorem V_cSI1 {Γ : GE} {d n0 nE : Nat} {M : MD} {Q : Option Value → HP → Prop} {pc : Nat} {ls st : List Value} {x : XM} {idx dc : Nat} {My : MD} {a1 : Value} {q : Int → Prop} (hd : decode M.2.1 pc = .ok (.invokestatic idx, 3)) (hlk : Cond.methodLink M.1.cls idx My.1 ∈ gw) (hce : CeS My 1) (h0 : n0 ≤ NF) (h2 : NF ≤ nE) (hdd : dc + 1 ≤ d) (hsum : (st.map fun v => v.category).sum ≤ 8) (hC : CV Γ dc NF NF My [a1] (mk Γ x) (QI Γ x q)) (K : ∀ z : Int, Rg z → q z → V Γ d n0 nE M Q (pc + 3) ls (vI z :: st) NF (mk Γ x)) : V Γ d n0 nE M Q pc ls (a1 :: st) NF (mk Γ x) := by
  refine V_callS (As := [a1]) hd hlk hce rfl h0 (Nat.le_refl _) h2 hdd hsum hC (fun v G hq => ?_)
  obtain ⟨rfl, z, rfl, hz, hq⟩ := hq
  exact K z hz hq
theorem V_cSE1 {Γ : GE} {d n0 nE : Nat} {M : MD} {Q : Option Value → HP → Prop} {pc : Nat} {ls st : List Value} {x : XM} {idx dc : Nat} {My : MD} {a1 : Value} {q : Int → XM → Prop} (hd : decode M.2.1 pc = .ok (.invokestatic idx, 3)) (hlk : Cond.methodLink M.1.cls idx My.1 ∈ gw) (hce : CeS My 1) (h0 : n0 ≤ NF) (h2 : NF ≤ nE) (hdd : dc + 1 ≤ d) (hsum : (st.map fun v => v.category).sum ≤ 8) (hC : CV Γ dc NF NF My [a1] (mk Γ x) (QE Γ q)) (K : ∀ (z : Int) (x1 : XM), WX x1 → Rg z → q z x1 → V Γ d n0 nE M Q (pc + 3) ls (vI z :: st) NF (mk Γ x1)) : V Γ d n0 nE M Q pc ls (a1 :: st) NF (mk Γ x) := by
  refine V_callS (As := [a1]) hd hlk hce rfl h0 (Nat.le_refl _) h2 hdd hsum hC (fun v G hq => ?_)
  obtain ⟨x1, z, rfl, hx, rfl, hz, hq⟩ := hq
  exact K z x1 hx hz hq
theorem V_cSU1 {Γ : GE} {d n0 nE : Nat} {M : MD} {Q : Option Value → HP → Prop} {pc : Nat} {ls st : List Value} {x : XM} {idx dc : Nat} {My : MD} {a1 : Value} {q : XM → Prop} (hd : decode M.2.1 pc = .ok (.invokestatic idx, 3)) (hlk : Cond.methodLink M.1.cls idx My.1 ∈ gw) (hce : CeS My 1) (h0 : n0 ≤ NF) (h2 : NF ≤ nE) (hdd : dc + 1 ≤ d) (hsum : (st.map fun v => v.category).sum ≤ 8) (hC : CV Γ dc NF NF My [a1] (mk Γ x) (QU Γ q)) (K : ∀ x1 : XM, WX x1 → q x1 → V Γ d n0 nE M Q (pc + 3) ls st NF (mk Γ x1)) : V Γ d n0 nE M Q pc ls (a1 :: st) NF (mk Γ x) := by
  refine V_callS (As := [a1]) hd hlk hce rfl h0 (Nat.le_refl _) h2 hdd hsum hC (fun v G hq => ?_)
  obtain ⟨x1, rfl, hx, rfl, hq⟩ := hq
  exact K x1 hx hq
theorem V_cSI2 {Γ : GE} {d n0 nE : Nat} {M : MD} {Q : Option Value → HP → Prop} {pc : Nat} {ls st : List Value} {x : XM} {idx dc : Nat} {My : MD} {a1 a2 : Value} {q : Int → Prop} (hd : decode M.2.1 pc = .ok (.invokestatic idx, 3)) (hlk : Cond.methodLink M.1.cls idx My.1 ∈ gw) (hce : CeS My 2) (h0 : n0 ≤ NF) (h2 : NF ≤ nE) (hdd : dc + 1 ≤ d) (hsum : (st.map fun v => v.category).sum ≤ 8) (hC : CV Γ dc NF NF My [a1, a2] (mk Γ x) (QI Γ x q)) (K : ∀ z : Int, Rg z → q z → V Γ d n0 nE M Q (pc + 3) ls (vI z :: st) NF (mk Γ x)) : V Γ d n0 nE M Q pc ls (a2 :: a1 :: st) NF (mk Γ x) := by
  refine V_callS (As := [a1, a2]) hd hlk hce rfl h0 (Nat.le_refl _) h2 hdd hsum hC (fun v G hq => ?_)
  obtain ⟨rfl, z, rfl, hz, hq⟩ := hq
  exact K z hz hq
theorem V_cSE2 {Γ : GE} {d n0 nE : Nat} {M : MD} {Q : Option Value → HP → Prop} {pc : Nat} {ls st : List Value} {x : XM} {idx dc : Nat} {My : MD} {a1 a2 : Value} {q : Int → XM → Prop} (hd : decode M.2.1 pc = .ok (.invokestatic idx, 3)) (hlk : Cond.methodLink M.1.cls idx My.1 ∈ gw) (hce : CeS My 2) (h0 : n0 ≤ NF) (h2 : NF ≤ nE) (hdd : dc + 1 ≤ d) (hsum : (st.map fun v => v.category).sum ≤ 8) (hC : CV Γ dc NF NF My [a1, a2] (mk Γ x) (QE Γ q)) (K : ∀ (z : Int) (x1 : XM), WX x1 → Rg z → q z x1 → V Γ d n0 nE M Q (pc + 3) ls (vI z :: st) NF (mk Γ x1)) : V Γ d n0 nE M Q pc ls (a2 :: a1 :: st) NF (mk Γ x) := by
  refine V_callS (As := [a1, a2]) hd hlk hce rfl h0 (Nat.le_refl _) h2 hdd hsum hC (fun v G hq => ?_)
  obtain ⟨x1, z, rfl, hx, rfl, hz, hq⟩ := hq
  exact K z x1 hx hz hq
theorem V_cSU2 {Γ : GE} {d n0 nE : Nat} {M : MD} {Q : Option Value → HP → Prop} {pc : Nat} {ls st : List Value} {x : XM} {idx dc : Nat} {My : MD} {a1 a2 : Value} {q : XM → Prop} (hd : decode M.2.1 pc = .ok (.invokestatic idx, 3)) (hlk : Cond.methodLink M.1.cls idx My.1 ∈ gw) (hce : CeS My 2) (h0 : n0 ≤ NF) (h2 : NF ≤ nE) (hdd : dc + 1 ≤ d) (hsum : (st.map fun v => v.category).sum ≤ 8) (hC : CV Γ dc NF NF My [a1, a2] (mk Γ x) (QU Γ q)) (K : ∀ x1 : XM, WX x1 → q x1 → V Γ d n0 nE M Q (pc + 3) ls st NF (mk Γ x1)) : V Γ d n0 nE M Q pc ls (a2 :: a1 :: st) NF (mk Γ x) := by
  refine V_callS (As := [a1, a2]) hd hlk hce rfl h0 (Nat.le_refl _) h2 hdd hsum hC (fun v G hq => ?_)
  obtain ⟨x1, rfl, hx, rfl, hq⟩ := hq
  exact K x1 hx hq
theorem V_cSI3 {Γ : GE} {d n0 nE : Nat} {M : MD} {Q : Option Value → HP → Prop} {pc : Nat} {ls st : List Value} {x : XM} {idx dc : Nat} {My : MD} {a1 a2 a3 : Value} {q : Int → Prop} (hd : decode M.2.1 pc = .ok (.invokestatic idx, 3)) (hlk : Cond.methodLink M.1.cls idx My.1 ∈ gw) (hce : CeS My 3) (h0 : n0 ≤ NF) (h2 : NF ≤ nE) (hdd : dc + 1 ≤ d) (hsum : (st.map fun v => v.category).sum ≤ 8) (hC : CV Γ dc NF NF My [a1, a2, a3] (mk Γ x) (QI Γ x q)) (K : ∀ z : Int, Rg z → q z → V Γ d n0 nE M Q (pc + 3) ls (vI z :: st) NF (mk Γ x)) : V Γ d n0 nE M Q pc ls (a3 :: a2 :: a1 :: st) NF (mk Γ x) := by
  refine V_callS (As := [a1, a2, a3]) hd hlk hce rfl h0 (Nat.le_refl _) h2 hdd hsum hC (fun v G hq => ?_)
  obtain ⟨rfl, z, rfl, hz, hq⟩ := hq
  exact K z hz hq
theorem V_cSE3 {Γ : GE} {d n0 nE : Nat} {M : MD} {Q : Option Value → HP → Prop} {pc : Nat} {ls st : List Value} {x : XM} {idx dc : Nat} {My : MD} {a1 a2 a3 : Value} {q : Int → XM → Prop} (hd : decode M.2.1 pc = .ok (.invokestatic idx, 3)) (hlk : Cond.methodLink M.1.cls idx My.1 ∈ gw) (hce : CeS My 3) (h0 : n0 ≤ NF) (h2 : NF ≤ nE) (hdd : dc + 1 ≤ d) (hsum : (st.map fun v => v.category).sum ≤ 8) (hC : CV Γ dc NF NF My [a1, a2, a3] (mk Γ x) (QE Γ q)) (K : ∀ (z : Int) (x1 : XM), WX x1 → Rg z → q z x1 → V Γ d n0 nE M Q (pc + 3) ls (vI z :: st) NF (mk Γ x1)) : V Γ d n0 nE M Q pc ls (a3 :: a2 :: a1 :: st) NF (mk Γ x) := by
  refine V_callS (As := [a1, a2, a3]) hd hlk hce rfl h0 (Nat.le_refl _) h2 hdd hsum hC (fun v G hq => ?_)
  obtain ⟨x1, z, rfl, hx, rfl, hz, hq⟩ := hq
  exact K z x1 hx hz hq
theorem V_cSU3 {Γ : GE} {d n0 nE : Nat} {M : MD} {Q : Option Value → HP → Prop} {pc : Nat} {ls st : List Value} {x : XM} {idx dc : Nat} {My : MD} {a1 a2 a3 : Value} {q : XM → Prop} (hd : decode M.2.1 pc = .ok (.invokestatic idx, 3)) (hlk : Cond.methodLink M.1.cls idx My.1 ∈ gw) (hce : CeS My 3) (h0 : n0 ≤ NF) (h2 : NF ≤ nE) (hdd : dc + 1 ≤ d) (hsum : (st.map fun v => v.category).sum ≤ 8) (hC : CV Γ dc NF NF My [a1, a2, a3] (mk Γ x) (QU Γ q)) (K : ∀ x1 : XM, WX x1 → q x1 → V Γ d n0 nE M Q (pc + 3) ls st NF (mk Γ x1)) : V Γ d n0 nE M Q pc ls (a3 :: a2 :: a1 :: st) NF (mk Γ x) := by
  refine V_callS (As := [a1, a2, a3]) hd hlk hce rfl h0 (Nat.le_refl _) h2 hdd hsum hC (fun v G hq => ?_)
  obtain ⟨x1, rfl, hx, rfl, hq⟩ := hq
  exact K x1 hx hq
theorem V_cSI4 {Γ : GE} {d n0 nE : Nat} {M : MD} {Q : Option Value → HP → Prop} {pc : Nat} {ls st : List Value} {x : XM} {idx dc : Nat} {My : MD} {a1 a2 a3 a4 : Value} {q : Int → Prop} (hd : decode M.2.1 pc = .ok (.invokestatic idx, 3)) (hlk : Cond.methodLink M.1.cls idx My.1 ∈ gw) (hce : CeS My 4) (h0 : n0 ≤ NF) (h2 : NF ≤ nE) (hdd : dc + 1 ≤ d) (hsum : (st.map fun v => v.category).sum ≤ 8) (hC : CV Γ dc NF NF My [a1, a2, a3, a4] (mk Γ x) (QI Γ x q)) (K : ∀ z : Int, Rg z → q z → V Γ d n0 nE M Q (pc + 3) ls (vI z :: st) NF (mk Γ x)) : V Γ d n0 nE M Q pc ls (a4 :: a3 :: a2 :: a1 :: st) NF (mk Γ x) := by
  refine V_callS (As := [a1, a2, a3, a4]) hd hlk hce rfl h0 (Nat.le_refl _) h2 hdd hsum hC (fun v G hq => ?_)
  obtain ⟨rfl, z, rfl, hz, hq⟩ := hq
  exact K z hz hq
theorem V_cSE4 {Γ : GE} {d n0 nE : Nat} {M : MD} {Q : Option Value → HP → Prop} {pc : Nat} {ls st : List Value} {x : XM} {idx dc : Nat} {My : MD} {a1 a2 a3 a4 : Value} {q : Int → XM → Prop} (hd : decode M.2.1 pc = .ok (.invokestatic idx, 3)) (hlk : Cond.methodLink M.1.cls idx My.1 ∈ gw) (hce : CeS My 4) (h0 : n0 ≤ NF) (h2 : NF ≤ nE) (hdd : dc + 1 ≤ d) (hsum : (st.map fun v => v.category).sum ≤ 8) (hC : CV Γ dc NF NF My [a1, a2, a3, a4] (mk Γ x) (QE Γ q)) (K : ∀ (z : Int) (x1 : XM), WX x1 → Rg z → q z x1 → V Γ d n0 nE M Q (pc + 3) ls (vI z :: st) NF (mk Γ x1)) : V Γ d n0 nE M Q pc ls (a4 :: a3 :: a2 :: a1 :: st) NF (mk Γ x) := by
  refine V_callS (As := [a1, a2, a3, a4]) hd hlk hce rfl h0 (Nat.le_refl _) h2 hdd hsum hC (fun v G hq => ?_)
  obtain ⟨x1, z, rfl, hx, rfl, hz, hq⟩ := hq
  exact K z x1 hx hz hq
theorem V_cSU4 {Γ : GE} {d n0 nE : Nat} {M : MD} {Q : Option Value → HP → Prop} {pc : Nat} {ls st : List Value} {x : XM} {idx dc : Nat} {My : MD} {a1 a2 a3 a4 : Value} {q : XM → Prop} (hd : decode M.2.1 pc = .ok (.invokestatic idx, 3)) (hlk : Cond.methodLink M.1.cls idx My.1 ∈ gw) (hce : CeS My 4) (h0 : n0 ≤ NF) (h2 : NF ≤ nE) (hdd : dc + 1 ≤ d) (hsum : (st.map fun v => v.category).sum ≤ 8) (hC : CV Γ dc NF NF My [a1, a2, a3, a4] (mk Γ x) (QU Γ q)) (K : ∀ x1 : XM, WX x1 → q x1 → V Γ d n0 nE M Q (pc + 3) ls st NF (mk Γ x1)) : V Γ d n0 nE M Q pc ls (a4 :: a3 :: a2 :: a1 :: st) NF (mk Γ x) := by
  refine V_callS (As := [a1, a2, a3, a4]) hd hlk hce rfl h0 (Nat.le_refl _) h2 hdd hsum hC (fun v G hq => ?_)
  obtain ⟨x1, rfl, hx, rfl, hq⟩ := hq
  exact K x1 hx hq
theorem V_cNI1 {Γ : GE} {d n0 nE : Nat} {M : MD} {Q : Option Value → HP → Prop} {pc : Nat} {ls st : List Value} {x : XM} {idx dc : Nat} {My : MD} {a1 : Value} {q : Int → Prop} (hd : decode M.2.1 pc = .ok (.invokestatic idx, 3)) (hlk : (M.1.cls, idx, My.1, "ButtonTin") ∈ nstM) (hce : CeS My 1) (h0 : n0 ≤ NF) (h2 : NF ≤ nE) (hdd : dc + 1 ≤ d) (hsum : (st.map fun v => v.category).sum ≤ 8) (hC : CV Γ dc NF NF My [a1] (mk Γ x) (QI Γ x q)) (K : ∀ z : Int, Rg z → q z → V Γ d n0 nE M Q (pc + 3) ls (vI z :: st) NF (mk Γ x)) : V Γ d n0 nE M Q pc ls (a1 :: st) NF (mk Γ x) := by
  refine V_callSN (As := [a1]) hd hlk hce rfl h0 (Nat.le_refl _) h2 hdd hsum hC (fun v G hq => ?_)
  obtain ⟨rfl, z, rfl, hz, hq⟩ := hq
  exact K z hz hq
theorem V_cNE1 {Γ : GE} {d n0 nE : Nat} {M : MD} {Q : Option Value → HP → Prop} {pc : Nat} {ls st : List Value} {x : XM} {idx dc : Nat} {My : MD} {a1 : Value} {q : Int → XM → Prop} (hd : decode M.2.1 pc = .ok (.invokestatic idx, 3)) (hlk : (M.1.cls, idx, My.1, "ButtonTin") ∈ nstM) (hce : CeS My 1) (h0 : n0 ≤ NF) (h2 : NF ≤ nE) (hdd : dc + 1 ≤ d) (hsum : (st.map fun v => v.category).sum ≤ 8) (hC : CV Γ dc NF NF My [a1] (mk Γ x) (QE Γ q)) (K : ∀ (z : Int) (x1 : XM), WX x1 → Rg z → q z x1 → V Γ d n0 nE M Q (pc + 3) ls (vI z :: st) NF (mk Γ x1)) : V Γ d n0 nE M Q pc ls (a1 :: st) NF (mk Γ x) := by
  refine V_callSN (As := [a1]) hd hlk hce rfl h0 (Nat.le_refl _) h2 hdd hsum hC (fun v G hq => ?_)
  obtain ⟨x1, z, rfl, hx, rfl, hz, hq⟩ := hq
  exact K z x1 hx hz hq
theorem V_cNU1 {Γ : GE} {d n0 nE : Nat} {M : MD} {Q : Option Value → HP → Prop} {pc : Nat} {ls st : List Value} {x : XM} {idx dc : Nat} {My : MD} {a1 : Value} {q : XM → Prop} (hd : decode M.2.1 pc = .ok (.invokestatic idx, 3)) (hlk : (M.1.cls, idx, My.1, "ButtonTin") ∈ nstM) (hce : CeS My 1) (h0 : n0 ≤ NF) (h2 : NF ≤ nE) (hdd : dc + 1 ≤ d) (hsum : (st.map fun v => v.category).sum ≤ 8) (hC : CV Γ dc NF NF My [a1] (mk Γ x) (QU Γ q)) (K : ∀ x1 : XM, WX x1 → q x1 → V Γ d n0 nE M Q (pc + 3) ls st NF (mk Γ x1)) : V Γ d n0 nE M Q pc ls (a1 :: st) NF (mk Γ x) := by
  refine V_callSN (As := [a1]) hd hlk hce rfl h0 (Nat.le_refl _) h2 hdd hsum hC (fun v G hq => ?_)
  obtain ⟨x1, rfl, hx, rfl, hq⟩ := hq
  exact K x1 hx hq
theorem V_cNI2 {Γ : GE} {d n0 nE : Nat} {M : MD} {Q : Option Value → HP → Prop} {pc : Nat} {ls st : List Value} {x : XM} {idx dc : Nat} {My : MD} {a1 a2 : Value} {q : Int → Prop} (hd : decode M.2.1 pc = .ok (.invokestatic idx, 3)) (hlk : (M.1.cls, idx, My.1, "ButtonTin") ∈ nstM) (hce : CeS My 2) (h0 : n0 ≤ NF) (h2 : NF ≤ nE) (hdd : dc + 1 ≤ d) (hsum : (st.map fun v => v.category).sum ≤ 8) (hC : CV Γ dc NF NF My [a1, a2] (mk Γ x) (QI Γ x q)) (K : ∀ z : Int, Rg z → q z → V Γ d n0 nE M Q (pc + 3) ls (vI z :: st) NF (mk Γ x)) : V Γ d n0 nE M Q pc ls (a2 :: a1 :: st) NF (mk Γ x) := by
  refine V_callSN (As := [a1, a2]) hd hlk hce rfl h0 (Nat.le_refl _) h2 hdd hsum hC (fun v G hq => ?_)
  obtain ⟨rfl, z, rfl, hz, hq⟩ := hq
  exact K z hz hq
theorem V_cNE2 {Γ : GE} {d n0 nE : Nat} {M : MD} {Q : Option Value → HP → Prop} {pc : Nat} {ls st : List Value} {x : XM} {idx dc : Nat} {My : MD} {a1 a2 : Value} {q : Int → XM → Prop} (hd : decode M.2.1 pc = .ok (.invokestatic idx, 3)) (hlk : (M.1.cls, idx, My.1, "ButtonTin") ∈ nstM) (hce : CeS My 2) (h0 : n0 ≤ NF) (h2 : NF ≤ nE) (hdd : dc + 1 ≤ d) (hsum : (st.map fun v => v.category).sum ≤ 8) (hC : CV Γ dc NF NF My [a1, a2] (mk Γ x) (QE Γ q)) (K : ∀ (z : Int) (x1 : XM), WX x1 → Rg z → q z x1 → V Γ d n0 nE M Q (pc + 3) ls (vI z :: st) NF (mk Γ x1)) : V Γ d n0 nE M Q pc ls (a2 :: a1 :: st) NF (mk Γ x) := by
  refine V_callSN (As := [a1, a2]) hd hlk hce rfl h0 (Nat.le_refl _) h2 hdd hsum hC (fun v G hq => ?_)
  obtain ⟨x1, z, rfl, hx, rfl, hz, hq⟩ := hq
  exact K z x1 hx hz hq
theorem V_cNU2 {Γ : GE} {d n0 nE : Nat} {M : MD} {Q : Option Value → HP → Prop} {pc : Nat} {ls st : List Value} {x : XM} {idx dc : Nat} {My : MD} {a1 a2 : Value} {q : XM → Prop} (hd : decode M.2.1 pc = .ok (.invokestatic idx, 3)) (hlk : (M.1.cls, idx, My.1, "ButtonTin") ∈ nstM) (hce : CeS My 2) (h0 : n0 ≤ NF) (h2 : NF ≤ nE) (hdd : dc + 1 ≤ d) (hsum : (st.map fun v => v.category).sum ≤ 8) (hC : CV Γ dc NF NF My [a1, a2] (mk Γ x) (QU Γ q)) (K : ∀ x1 : XM, WX x1 → q x1 → V Γ d n0 nE M Q (pc + 3) ls st NF (mk Γ x1)) : V Γ d n0 nE M Q pc ls (a2 :: a1 :: st) NF (mk Γ x) := by
  refine V_callSN (As := [a1, a2]) hd hlk hce rfl h0 (Nat.le_refl _) h2 hdd hsum hC (fun v G hq => ?_)
  obtain ⟨x1, rfl, hx, rfl, hq⟩ := hq
  exact K x1 hx hq
theorem V_cNI3 {Γ : GE} {d n0 nE : Nat} {M : MD} {Q : Option Value → HP → Prop} {pc : Nat} {ls st : List Value} {x : XM} {idx dc : Nat} {My : MD} {a1 a2 a3 : Value} {q : Int → Prop} (hd : decode M.2.1 pc = .ok (.invokestatic idx, 3)) (hlk : (M.1.cls, idx, My.1, "ButtonTin") ∈ nstM) (hce : CeS My 3) (h0 : n0 ≤ NF) (h2 : NF ≤ nE) (hdd : dc + 1 ≤ d) (hsum : (st.map fun v => v.category).sum ≤ 8) (hC : CV Γ dc NF NF My [a1, a2, a3] (mk Γ x) (QI Γ x q)) (K : ∀ z : Int, Rg z → q z → V Γ d n0 nE M Q (pc + 3) ls (vI z :: st) NF (mk Γ x)) : V Γ d n0 nE M Q pc ls (a3 :: a2 :: a1 :: st) NF (mk Γ x) := by
  refine V_callSN (As := [a1, a2, a3]) hd hlk hce rfl h0 (Nat.le_refl _) h2 hdd hsum hC (fun v G hq => ?_)
  obtain ⟨rfl, z, rfl, hz, hq⟩ := hq
  exact K z hz hq
theorem V_cNE3 {Γ : GE} {d n0 nE : Nat} {M : MD} {Q : Option Value → HP → Prop} {pc : Nat} {ls st : List Value} {x : XM} {idx dc : Nat} {My : MD} {a1 a2 a3 : Value} {q : Int → XM → Prop} (hd : decode M.2.1 pc = .ok (.invokestatic idx, 3)) (hlk : (M.1.cls, idx, My.1, "ButtonTin") ∈ nstM) (hce : CeS My 3) (h0 : n0 ≤ NF) (h2 : NF ≤ nE) (hdd : dc + 1 ≤ d) (hsum : (st.map fun v => v.category).sum ≤ 8) (hC : CV Γ dc NF NF My [a1, a2, a3] (mk Γ x) (QE Γ q)) (K : ∀ (z : Int) (x1 : XM), WX x1 → Rg z → q z x1 → V Γ d n0 nE M Q (pc + 3) ls (vI z :: st) NF (mk Γ x1)) : V Γ d n0 nE M Q pc ls (a3 :: a2 :: a1 :: st) NF (mk Γ x) := by
  refine V_callSN (As := [a1, a2, a3]) hd hlk hce rfl h0 (Nat.le_refl _) h2 hdd hsum hC (fun v G hq => ?_)
  obtain ⟨x1, z, rfl, hx, rfl, hz, hq⟩ := hq
  exact K z x1 hx hz hq
theorem V_cNU3 {Γ : GE} {d n0 nE : Nat} {M : MD} {Q : Option Value → HP → Prop} {pc : Nat} {ls st : List Value} {x : XM} {idx dc : Nat} {My : MD} {a1 a2 a3 : Value} {q : XM → Prop} (hd : decode M.2.1 pc = .ok (.invokestatic idx, 3)) (hlk : (M.1.cls, idx, My.1, "ButtonTin") ∈ nstM) (hce : CeS My 3) (h0 : n0 ≤ NF) (h2 : NF ≤ nE) (hdd : dc + 1 ≤ d) (hsum : (st.map fun v => v.category).sum ≤ 8) (hC : CV Γ dc NF NF My [a1, a2, a3] (mk Γ x) (QU Γ q)) (K : ∀ x1 : XM, WX x1 → q x1 → V Γ d n0 nE M Q (pc + 3) ls st NF (mk Γ x1)) : V Γ d n0 nE M Q pc ls (a3 :: a2 :: a1 :: st) NF (mk Γ x) := by
  refine V_callSN (As := [a1, a2, a3]) hd hlk hce rfl h0 (Nat.le_refl _) h2 hdd hsum hC (fun v G hq => ?_)
  obtain ⟨x1, rfl, hx, rfl, hq⟩ := hq
  exact K x1 hx hq
theorem V_cNI4 {Γ : GE} {d n0 nE : Nat} {M : MD} {Q : Option Value → HP → Prop} {pc : Nat} {ls st : List Value} {x : XM} {idx dc : Nat} {My : MD} {a1 a2 a3 a4 : Value} {q : Int → Prop} (hd : decode M.2.1 pc = .ok (.invokestatic idx, 3)) (hlk : (M.1.cls, idx, My.1, "ButtonTin") ∈ nstM) (hce : CeS My 4) (h0 : n0 ≤ NF) (h2 : NF ≤ nE) (hdd : dc + 1 ≤ d) (hsum : (st.map fun v => v.category).sum ≤ 8) (hC : CV Γ dc NF NF My [a1, a2, a3, a4] (mk Γ x) (QI Γ x q)) (K : ∀ z : Int, Rg z → q z → V Γ d n0 nE M Q (pc + 3) ls (vI z :: st) NF (mk Γ x)) : V Γ d n0 nE M Q pc ls (a4 :: a3 :: a2 :: a1 :: st) NF (mk Γ x) := by
  refine V_callSN (As := [a1, a2, a3, a4]) hd hlk hce rfl h0 (Nat.le_refl _) h2 hdd hsum hC (fun v G hq => ?_)
  obtain ⟨rfl, z, rfl, hz, hq⟩ := hq
  exact K z hz hq
theorem V_cNE4 {Γ : GE} {d n0 nE : Nat} {M : MD} {Q : Option Value → HP → Prop} {pc : Nat} {ls st : List Value} {x : XM} {idx dc : Nat} {My : MD} {a1 a2 a3 a4 : Value} {q : Int → XM → Prop} (hd : decode M.2.1 pc = .ok (.invokestatic idx, 3)) (hlk : (M.1.cls, idx, My.1, "ButtonTin") ∈ nstM) (hce : CeS My 4) (h0 : n0 ≤ NF) (h2 : NF ≤ nE) (hdd : dc + 1 ≤ d) (hsum : (st.map fun v => v.category).sum ≤ 8) (hC : CV Γ dc NF NF My [a1, a2, a3, a4] (mk Γ x) (QE Γ q)) (K : ∀ (z : Int) (x1 : XM), WX x1 → Rg z → q z x1 → V Γ d n0 nE M Q (pc + 3) ls (vI z :: st) NF (mk Γ x1)) : V Γ d n0 nE M Q pc ls (a4 :: a3 :: a2 :: a1 :: st) NF (mk Γ x) := by
  refine V_callSN (As := [a1, a2, a3, a4]) hd hlk hce rfl h0 (Nat.le_refl _) h2 hdd hsum hC (fun v G hq => ?_)
  obtain ⟨x1, z, rfl, hx, rfl, hz, hq⟩ := hq
  exact K z x1 hx hz hq
theorem V_cNU4 {Γ : GE} {d n0 nE : Nat} {M : MD} {Q : Option Value → HP → Prop} {pc : Nat} {ls st : List Value} {x : XM} {idx dc : Nat} {My : MD} {a1 a2 a3 a4 : Value} {q : XM → Prop} (hd : decode M.2.1 pc = .ok (.invokestatic idx, 3)) (hlk : (M.1.cls, idx, My.1, "ButtonTin") ∈ nstM) (hce : CeS My 4) (h0 : n0 ≤ NF) (h2 : NF ≤ nE) (hdd : dc + 1 ≤ d) (hsum : (st.map fun v => v.category).sum ≤ 8) (hC : CV Γ dc NF NF My [a1, a2, a3, a4] (mk Γ x) (QU Γ q)) (K : ∀ x1 : XM, WX x1 → q x1 → V Γ d n0 nE M Q (pc + 3) ls st NF (mk Γ x1)) : V Γ d n0 nE M Q pc ls (a4 :: a3 :: a2 :: a1 :: st) NF (mk Γ x) := by
  refine V_callSN (As := [a1, a2, a3, a4]) hd hlk hce rfl h0 (Nat.le_refl _) h2 hdd hsum hC (fun v G hq => ?_)
  obtain ⟨x1, rfl, hx, rfl, hq⟩ := hq
  exact K x1 hx hq
theorem V_istore_0 {Γ : GE} {d n0 nE : Nat} {M : MD} {Q : Option Value → HP → Prop} {pc n : Nat} {st : List Value} {G : HP} {a0 v : Value} {t : List Value} (hd : decode M.2.1 pc = .ok (.istore_n 0, 1)) (hv : isI v = true) (K : V Γ d n0 nE M Q (pc + 1) (v :: t) st n G) : V Γ d n0 nE M Q pc (a0 :: t) (v :: st) n G :=
  V_istore_n hd (by show 0 < List.length (a0 ::  t); simp) trivial hv K
theorem V_astore_0 {Γ : GE} {d n0 nE : Nat} {M : MD} {Q : Option Value → HP → Prop} {pc n : Nat} {st : List Value} {G : HP} {a0 v : Value} {t : List Value} (hd : decode M.2.1 pc = .ok (.astore_n 0, 1)) (hv : isR v = true) (K : V Γ d n0 nE M Q (pc + 1) (v :: t) st n G) : V Γ d n0 nE M Q pc (a0 :: t) (v :: st) n G :=
  V_astore_n hd (by show 0 < List.length (a0 ::  t); simp) trivial hv K
theorem V_iinc_0 {Γ : GE} {d n0 nE : Nat} {M : MD} {Q : Option Value → HP → Prop} {pc n : Nat} {st : List Value} {G : HP} {a0 : Value} {z w : Int} {t : List Value} (hd : decode M.2.1 pc = .ok (.iinc 0 w, 3)) (K : V Γ d n0 nE M Q (pc + 3) (vI (z + w) :: t) st n G) : V Γ d n0 nE M Q pc (vI z :: t) st n G :=
  V_iinc hd rfl trivial K
theorem V_istore_1 {Γ : GE} {d n0 nE : Nat} {M : MD} {Q : Option Value → HP → Prop} {pc n : Nat} {st : List Value} {G : HP} {a0 a1 v : Value} {t : List Value} (hd : decode M.2.1 pc = .ok (.istore_n 1, 1)) (hc : a0.category = 1) (hv : isI v = true) (K : V Γ d n0 nE M Q (pc + 1) (a0 :: v :: t) st n G) : V Γ d n0 nE M Q pc (a0 :: a1 :: t) (v :: st) n G :=
  V_istore_n hd (by show 1 < List.length (a0 :: a1 ::  t); simp) (fun v hv => by cases hv; exact hc) hv K
theorem V_astore_1 {Γ : GE} {d n0 nE : Nat} {M : MD} {Q : Option Value → HP → Prop} {pc n : Nat} {st : List Value} {G : HP} {a0 a1 v : Value} {t : List Value} (hd : decode M.2.1 pc = .ok (.astore_n 1, 1)) (hc : a0.category = 1) (hv : isR v = true) (K : V Γ d n0 nE M Q (pc + 1) (a0 :: v :: t) st n G) : V Γ d n0 nE M Q pc (a0 :: a1 :: t) (v :: st) n G :=
  V_astore_n hd (by show 1 < List.length (a0 :: a1 ::  t); simp) (fun v hv => by cases hv; exact hc) hv K
theorem V_iinc_1 {Γ : GE} {d n0 nE : Nat} {M : MD} {Q : Option Value → HP → Prop} {pc n : Nat} {st : List Value} {G : HP} {a0 a1 : Value} {z w : Int} {t : List Value} (hd : decode M.2.1 pc = .ok (.iinc 1 w, 3)) (hc : a0.category = 1) (K : V Γ d n0 nE M Q (pc + 3) (a0 :: vI (z + w) :: t) st n G) : V Γ d n0 nE M Q pc (a0 :: vI z :: t) st n G :=
  V_iinc hd rfl (fun v hv => by cases hv; exact hc) K
theorem V_istore_2 {Γ : GE} {d n0 nE : Nat} {M : MD} {Q : Option Value → HP → Prop} {pc n : Nat} {st : List Value} {G : HP} {a0 a1 a2 v : Value} {t : List Value} (hd : decode M.2.1 pc = .ok (.istore_n 2, 1)) (hc : a1.category = 1) (hv : isI v = true) (K : V Γ d n0 nE M Q (pc + 1) (a0 :: a1 :: v :: t) st n G) : V Γ d n0 nE M Q pc (a0 :: a1 :: a2 :: t) (v :: st) n G :=
  V_istore_n hd (by show 2 < List.length (a0 :: a1 :: a2 ::  t); simp) (fun v hv => by cases hv; exact hc) hv K
theorem V_astore_2 {Γ : GE} {d n0 nE : Nat} {M : MD} {Q : Option Value → HP → Prop} {pc n : Nat} {st : List Value} {G : HP} {a0 a1 a2 v : Value} {t : List Value} (hd : decode M.2.1 pc = .ok (.astore_n 2, 1)) (hc : a1.category = 1) (hv : isR v = true) (K : V Γ d n0 nE M Q (pc + 1) (a0 :: a1 :: v :: t) st n G) : V Γ d n0 nE M Q pc (a0 :: a1 :: a2 :: t) (v :: st) n G :=
  V_astore_n hd (by show 2 < List.length (a0 :: a1 :: a2 ::  t); simp) (fun v hv => by cases hv; exact hc) hv K
theorem V_iinc_2 {Γ : GE} {d n0 nE : Nat} {M : MD} {Q : Option Value → HP → Prop} {pc n : Nat} {st : List Value} {G : HP} {a0 a1 a2 : Value} {z w : Int} {t : List Value} (hd : decode M.2.1 pc = .ok (.iinc 2 w, 3)) (hc : a1.category = 1) (K : V Γ d n0 nE M Q (pc + 3) (a0 :: a1 :: vI (z + w) :: t) st n G) : V Γ d n0 nE M Q pc (a0 :: a1 :: vI z :: t) st n G :=
  V_iinc hd rfl (fun v hv => by cases hv; exact hc) K
theorem V_lstore_2 {Γ : GE} {d n0 nE : Nat} {M : MD} {Q : Option Value → HP → Prop} {pc n : Nat} {st : List Value} {G : HP} {a0 a1 a2 b v : Value} {t : List Value} (hd : decode M.2.1 pc = .ok (.lstore_n 2, 1)) (hc : a1.category = 1) (hv : isL v = true) (K : V Γ d n0 nE M Q (pc + 1) (a0 :: a1 :: v :: uu :: t) st n G) : V Γ d n0 nE M Q pc (a0 :: a1 :: a2 :: b :: t) (v :: st) n G :=
  V_lstore_n hd (by show 2 + 1 < List.length (a0 :: a1 :: a2 ::  b :: t); simp) (fun v hv => by cases hv; exact hc) hv K
theorem V_istore_3 {Γ : GE} {d n0 nE : Nat} {M : MD} {Q : Option Value → HP → Prop} {pc n : Nat} {st : List Value} {G : HP} {a0 a1 a2 a3 v : Value} {t : List Value} (hd : decode M.2.1 pc = .ok (.istore_n 3, 1)) (hc : a2.category = 1) (hv : isI v = true) (K : V Γ d n0 nE M Q (pc + 1) (a0 :: a1 :: a2 :: v :: t) st n G) : V Γ d n0 nE M Q pc (a0 :: a1 :: a2 :: a3 :: t) (v :: st) n G :=
  V_istore_n hd (by show 3 < List.length (a0 :: a1 :: a2 :: a3 ::  t); simp) (fun v hv => by cases hv; exact hc) hv K
theorem V_astore_3 {Γ : GE} {d n0 nE : Nat} {M : MD} {Q : Option Value → HP → Prop} {pc n : Nat} {st : List Value} {G : HP} {a0 a1 a2 a3 v : Value} {t : List Value} (hd : decode M.2.1 pc = .ok (.astore_n 3, 1)) (hc : a2.category = 1) (hv : isR v = true) (K : V Γ d n0 nE M Q (pc + 1) (a0 :: a1 :: a2 :: v :: t) st n G) : V Γ d n0 nE M Q pc (a0 :: a1 :: a2 :: a3 :: t) (v :: st) n G :=
  V_astore_n hd (by show 3 < List.length (a0 :: a1 :: a2 :: a3 ::  t); simp) (fun v hv => by cases hv; exact hc) hv K
theorem V_iinc_3 {Γ : GE} {d n0 nE : Nat} {M : MD} {Q : Option Value → HP → Prop} {pc n : Nat} {st : List Value} {G : HP} {a0 a1 a2 a3 : Value} {z w : Int} {t : List Value} (hd : decode M.2.1 pc = .ok (.iinc 3 w, 3)) (hc : a2.category = 1) (K : V Γ d n0 nE M Q (pc + 3) (a0 :: a1 :: a2 :: vI (z + w) :: t) st n G) : V Γ d n0 nE M Q pc (a0 :: a1 :: a2 :: vI z :: t) st n G :=
  V_iinc hd rfl (fun v hv => by cases hv; exact hc) K
theorem V_lstore_3 {Γ : GE} {d n0 nE : Nat} {M : MD} {Q : Option Value → HP → Prop} {pc n : Nat} {st : List Value} {G : HP} {a0 a1 a2 a3 b v : Value} {t : List Value} (hd : decode M.2.1 pc = .ok (.lstore_n 3, 1)) (hc : a2.category = 1) (hv : isL v = true) (K : V Γ d n0 nE M Q (pc + 1) (a0 :: a1 :: a2 :: v :: uu :: t) st n G) : V Γ d n0 nE M Q pc (a0 :: a1 :: a2 :: a3 :: b :: t) (v :: st) n G :=
  V_lstore_n hd (by show 3 + 1 < List.length (a0 :: a1 :: a2 :: a3 ::  b :: t); simp) (fun v hv => by cases hv; exact hc) hv K
theorem V_istore_4 {Γ : GE} {d n0 nE : Nat} {M : MD} {Q : Option Value → HP → Prop} {pc n : Nat} {st : List Value} {G : HP} {a0 a1 a2 a3 a4 v : Value} {t : List Value} (hd : decode M.2.1 pc = .ok (.istore 4, 2)) (hc : a3.category = 1) (hv : isI v = true) (K : V Γ d n0 nE M Q (pc + 2) (a0 :: a1 :: a2 :: a3 :: v :: t) st n G) : V Γ d n0 nE M Q pc (a0 :: a1 :: a2 :: a3 :: a4 :: t) (v :: st) n G :=
  V_istore hd (by show 4 < List.length (a0 :: a1 :: a2 :: a3 :: a4 ::  t); simp) (fun v hv => by cases hv; exact hc) hv K
theorem V_iinc_4 {Γ : GE} {d n0 nE : Nat} {M : MD} {Q : Option Value → HP → Prop} {pc n : Nat} {st : List Value} {G : HP} {a0 a1 a2 a3 a4 : Value} {z w : Int} {t : List Value} (hd : decode M.2.1 pc = .ok (.iinc 4 w, 3)) (hc : a3.category = 1) (K : V Γ d n0 nE M Q (pc + 3) (a0 :: a1 :: a2 :: a3 :: vI (z + w) :: t) st n G) : V Γ d n0 nE M Q pc (a0 :: a1 :: a2 :: a3 :: vI z :: t) st n G :=
  V_iinc hd rfl (fun v hv => by cases hv; exact hc) K
theorem V_istore_5 {Γ : GE} {d n0 nE : Nat} {M : MD} {Q : Option Value → HP → Prop} {pc n : Nat} {st : List Value} {G : HP} {a0 a1 a2 a3 a4 a5 v : Value} {t : List Value} (hd : decode M.2.1 pc = .ok (.istore 5, 2)) (hc : a4.category = 1) (hv : isI v = true) (K : V Γ d n0 nE M Q (pc + 2) (a0 :: a1 :: a2 :: a3 :: a4 :: v :: t) st n G) : V Γ d n0 nE M Q pc (a0 :: a1 :: a2 :: a3 :: a4 :: a5 :: t) (v :: st) n G :=
  V_istore hd (by show 5 < List.length (a0 :: a1 :: a2 :: a3 :: a4 :: a5 ::  t); simp) (fun v hv => by cases hv; exact hc) hv K
theorem V_iinc_5 {Γ : GE} {d n0 nE : Nat} {M : MD} {Q : Option Value → HP → Prop} {pc n : Nat} {st : List Value} {G : HP} {a0 a1 a2 a3 a4 a5 : Value} {z w : Int} {t : List Value} (hd : decode M.2.1 pc = .ok (.iinc 5 w, 3)) (hc : a4.category = 1) (K : V Γ d n0 nE M Q (pc + 3) (a0 :: a1 :: a2 :: a3 :: a4 :: vI (z + w) :: t) st n G) : V Γ d n0 nE M Q pc (a0 :: a1 :: a2 :: a3 :: a4 :: vI z :: t) st n G :=
  V_iinc hd rfl (fun v hv => by cases hv; exact hc) K
theorem V_istore_6 {Γ : GE} {d n0 nE : Nat} {M : MD} {Q : Option Value → HP → Prop} {pc n : Nat} {st : List Value} {G : HP} {a0 a1 a2 a3 a4 a5 a6 v : Value} {t : List Value} (hd : decode M.2.1 pc = .ok (.istore 6, 2)) (hc : a5.category = 1) (hv : isI v = true) (K : V Γ d n0 nE M Q (pc + 2) (a0 :: a1 :: a2 :: a3 :: a4 :: a5 :: v :: t) st n G) : V Γ d n0 nE M Q pc (a0 :: a1 :: a2 :: a3 :: a4 :: a5 :: a6 :: t) (v :: st) n G :=
  V_istore hd (by show 6 < List.length (a0 :: a1 :: a2 :: a3 :: a4 :: a5 :: a6 ::  t); simp) (fun v hv => by cases hv; exact hc) hv K
theorem V_iinc_6 {Γ : GE} {d n0 nE : Nat} {M : MD} {Q : Option Value → HP → Prop} {pc n : Nat} {st : List Value} {G : HP} {a0 a1 a2 a3 a4 a5 a6 : Value} {z w : Int} {t : List Value} (hd : decode M.2.1 pc = .ok (.iinc 6 w, 3)) (hc : a5.category = 1) (K : V Γ d n0 nE M Q (pc + 3) (a0 :: a1 :: a2 :: a3 :: a4 :: a5 :: vI (z + w) :: t) st n G) : V Γ d n0 nE M Q pc (a0 :: a1 :: a2 :: a3 :: a4 :: a5 :: vI z :: t) st n G :=
  V_iinc hd rfl (fun v hv => by cases hv; exact hc) K
theorem V_istore_7 {Γ : GE} {d n0 nE : Nat} {M : MD} {Q : Option Value → HP → Prop} {pc n : Nat} {st : List Value} {G : HP} {a0 a1 a2 a3 a4 a5 a6 a7 v : Value} {t : List Value} (hd : decode M.2.1 pc = .ok (.istore 7, 2)) (hc : a6.category = 1) (hv : isI v = true) (K : V Γ d n0 nE M Q (pc + 2) (a0 :: a1 :: a2 :: a3 :: a4 :: a5 :: a6 :: v :: t) st n G) : V Γ d n0 nE M Q pc (a0 :: a1 :: a2 :: a3 :: a4 :: a5 :: a6 :: a7 :: t) (v :: st) n G :=
  V_istore hd (by show 7 < List.length (a0 :: a1 :: a2 :: a3 :: a4 :: a5 :: a6 :: a7 ::  t); simp) (fun v hv => by cases hv; exact hc) hv K
theorem V_iinc_7 {Γ : GE} {d n0 nE : Nat} {M : MD} {Q : Option Value → HP → Prop} {pc n : Nat} {st : List Value} {G : HP} {a0 a1 a2 a3 a4 a5 a6 a7 : Value} {z w : Int} {t : List Value} (hd : decode M.2.1 pc = .ok (.iinc 7 w, 3)) (hc : a6.category = 1) (K : V Γ d n0 nE M Q (pc + 3) (a0 :: a1 :: a2 :: a3 :: a4 :: a5 :: a6 :: vI (z + w) :: t) st n G) : V Γ d n0 nE M Q pc (a0 :: a1 :: a2 :: a3 :: a4 :: a5 :: a6 :: vI z :: t) st n G :=
  V_iinc hd rfl (fun v hv => by cases hv; exact hc) K
theorem V_istore_8 {Γ : GE} {d n0 nE : Nat} {M : MD} {Q : Option Value → HP → Prop} {pc n : Nat} {st : List Value} {G : HP} {a0 a1 a2 a3 a4 a5 a6 a7 a8 v : Value} {t : List Value} (hd : decode M.2.1 pc = .ok (.istore 8, 2)) (hc : a7.category = 1) (hv : isI v = true) (K : V Γ d n0 nE M Q (pc + 2) (a0 :: a1 :: a2 :: a3 :: a4 :: a5 :: a6 :: a7 :: v :: t) st n G) : V Γ d n0 nE M Q pc (a0 :: a1 :: a2 :: a3 :: a4 :: a5 :: a6 :: a7 :: a8 :: t) (v :: st) n G :=
  V_istore hd (by show 8 < List.length (a0 :: a1 :: a2 :: a3 :: a4 :: a5 :: a6 :: a7 :: a8 ::  t); simp) (fun v hv => by cases hv; exact hc) hv K
theorem V_iinc_8 {Γ : GE} {d n0 nE : Nat} {M : MD} {Q : Option Value → HP → Prop} {pc n : Nat} {st : List Value} {G : HP} {a0 a1 a2 a3 a4 a5 a6 a7 a8 : Value} {z w : Int} {t : List Value} (hd : decode M.2.1 pc = .ok (.iinc 8 w, 3)) (hc : a7.category = 1) (K : V Γ d n0 nE M Q (pc + 3) (a0 :: a1 :: a2 :: a3 :: a4 :: a5 :: a6 :: a7 :: vI (z + w) :: t) st n G) : V Γ d n0 nE M Q pc (a0 :: a1 :: a2 :: a3 :: a4 :: a5 :: a6 :: a7 :: vI z :: t) st n G :=
  V_iinc hd rfl (fun v hv => by cases hv; exact hc) K
theorem V_istore_9 {Γ : GE} {d n0 nE : Nat} {M : MD} {Q : Option Value → HP → Prop} {pc n : Nat} {st : List Value} {G : HP} {a0 a1 a2 a3 a4 a5 a6 a7 a8 a9 v : Value} {t : List Value} (hd : decode M.2.1 pc = .ok (.istore 9, 2)) (hc : a8.category = 1) (hv : isI v = true) (K : V Γ d n0 nE M Q (pc + 2) (a0 :: a1 :: a2 :: a3 :: a4 :: a5 :: a6 :: a7 :: a8 :: v :: t) st n G) : V Γ d n0 nE M Q pc (a0 :: a1 :: a2 :: a3 :: a4 :: a5 :: a6 :: a7 :: a8 :: a9 :: t) (v :: st) n G :=
  V_istore hd (by show 9 < List.length (a0 :: a1 :: a2 :: a3 :: a4 :: a5 :: a6 :: a7 :: a8 :: a9 ::  t); simp) (fun v hv => by cases hv; exact hc) hv K
theorem V_iinc_9 {Γ : GE} {d n0 nE : Nat} {M : MD} {Q : Option Value → HP → Prop} {pc n : Nat} {st : List Value} {G : HP} {a0 a1 a2 a3 a4 a5 a6 a7 a8 a9 : Value} {z w : Int} {t : List Value} (hd : decode M.2.1 pc = .ok (.iinc 9 w, 3)) (hc : a8.category = 1) (K : V Γ d n0 nE M Q (pc + 3) (a0 :: a1 :: a2 :: a3 :: a4 :: a5 :: a6 :: a7 :: a8 :: vI (z + w) :: t) st n G) : V Γ d n0 nE M Q pc (a0 :: a1 :: a2 :: a3 :: a4 :: a5 :: a6 :: a7 :: a8 :: vI z :: t) st n G :=
  V_iinc hd rfl (fun v hv => by cases hv; exact hc) K
theorem V_istore_10 {Γ : GE} {d n0 nE : Nat} {M : MD} {Q : Option Value → HP → Prop} {pc n : Nat} {st : List Value} {G : HP} {a0 a1 a2 a3 a4 a5 a6 a7 a8 a9 a10 v : Value} {t : List Value} (hd : decode M.2.1 pc = .ok (.istore 10, 2)) (hc : a9.category = 1) (hv : isI v = true) (K : V Γ d n0 nE M Q (pc + 2) (a0 :: a1 :: a2 :: a3 :: a4 :: a5 :: a6 :: a7 :: a8 :: a9 :: v :: t) st n G) : V Γ d n0 nE M Q pc (a0 :: a1 :: a2 :: a3 :: a4 :: a5 :: a6 :: a7 :: a8 :: a9 :: a10 :: t) (v :: st) n G :=
  V_istore hd (by show 10 < List.length (a0 :: a1 :: a2 :: a3 :: a4 :: a5 :: a6 :: a7 :: a8 :: a9 :: a10 ::  t); simp) (fun v hv => by cases hv; exact hc) hv K
theorem V_iinc_10 {Γ : GE} {d n0 nE : Nat} {M : MD} {Q : Option Value → HP → Prop} {pc n : Nat} {st : List Value} {G : HP} {a0 a1 a2 a3 a4 a5 a6 a7 a8 a9 a10 : Value} {z w : Int} {t : List Value} (hd : decode M.2.1 pc = .ok (.iinc 10 w, 3)) (hc : a9.category = 1) (K : V Γ d n0 nE M Q (pc + 3) (a0 :: a1 :: a2 :: a3 :: a4 :: a5 :: a6 :: a7 :: a8 :: a9 :: vI (z + w) :: t) st n G) : V Γ d n0 nE M Q pc (a0 :: a1 :: a2 :: a3 :: a4 :: a5 :: a6 :: a7 :: a8 :: a9 :: vI z :: t) st n G :=
  V_iinc hd rfl (fun v hv => by cases hv; exact hc) K
theorem V_istore_11 {Γ : GE} {d n0 nE : Nat} {M : MD} {Q : Option Value → HP → Prop} {pc n : Nat} {st : List Value} {G : HP} {a0 a1 a2 a3 a4 a5 a6 a7 a8 a9 a10 a11 v : Value} {t : List Value} (hd : decode M.2.1 pc = .ok (.istore 11, 2)) (hc : a10.category = 1) (hv : isI v = true) (K : V Γ d n0 nE M Q (pc + 2) (a0 :: a1 :: a2 :: a3 :: a4 :: a5 :: a6 :: a7 :: a8 :: a9 :: a10 :: v :: t) st n G) : V Γ d n0 nE M Q pc (a0 :: a1 :: a2 :: a3 :: a4 :: a5 :: a6 :: a7 :: a8 :: a9 :: a10 :: a11 :: t) (v :: st) n G :=
  V_istore hd (by show 11 < List.length (a0 :: a1 :: a2 :: a3 :: a4 :: a5 :: a6 :: a7 :: a8 :: a9 :: a10 :: a11 ::  t); simp) (fun v hv => by cases hv; exact hc) hv K
theorem V_iinc_11 {Γ : GE} {d n0 nE : Nat} {M : MD} {Q : Option Value → HP → Prop} {pc n : Nat} {st : List Value} {G : HP} {a0 a1 a2 a3 a4 a5 a6 a7 a8 a9 a10 a11 : Value} {z w : Int} {t : List Value} (hd : decode M.2.1 pc = .ok (.iinc 11 w, 3)) (hc : a10.category = 1) (K : V Γ d n0 nE M Q (pc + 3) (a0 :: a1 :: a2 :: a3 :: a4 :: a5 :: a6 :: a7 :: a8 :: a9 :: a10 :: vI (z + w) :: t) st n G) : V Γ d n0 nE M Q pc (a0 :: a1 :: a2 :: a3 :: a4 :: a5 :: a6 :: a7 :: a8 :: a9 :: a10 :: vI z :: t) st n G :=
  V_iinc hd rfl (fun v hv => by cases hv; exact hc) K
theorem Lc.forget {A : Array Slot} {nL : Nat} {ls ls2 : List Value} (h : Lc A nL ls) (hn : ls2.length = ls.length) (hf : ∀ (i : Nat) (v : Value), ls2[i]? = some v → v ≠ uu → ls[i]? = some v) : Lc A nL ls2 := by
  refine ⟨⟨h.1.1, h.1.2.1, fun q hq => ?_⟩, by rw [hn]; exact h.2⟩
  obtain ⟨h1, h2⟩ := asn_mem.mp hq
  exact h.1.2.2 q (asn_mem.mpr ⟨hf _ _ h1 h2, h2⟩)
theorem V_fg {Γ : GE} {d n0 nE : Nat} {M : MD} {Q : Option Value → HP → Prop} {pc n : Nat} {ls ls2 st : List Value} {G : HP} (hn : ls2.length = ls.length) (hf : ∀ (i : Nat) (v : Value), ls2[i]? = some v → v ≠ uu → ls[i]? = some v) (K : V Γ d n0 nE M Q pc ls2 st n G) : V Γ d n0 nE M Q pc ls st n G := by
  intro p l e R s m args below meth c Fin C H locs lsA hl hR hS
  exact K p l e R s m args below meth c Fin C H locs lsA (hl.forget hn hf) hR hS
theorem V_fg_0 {Γ : GE} {d n0 nE : Nat} {M : MD} {Q : Option Value → HP → Prop} {pc n : Nat} {st : List Value} {G : HP} {a0 : Value} {t : List Value} (K : V Γ d n0 nE M Q pc (uu :: t) st n G) : V Γ d n0 nE M Q pc (a0 :: t) st n G := by
  refine V_fg (ls2 := uu :: t) rfl (fun i v hi hv => ?_) K
  match i, hi with
  | 0, hi => exact absurd (Option.some.inj hi).symm hv
  | i + 1, hi => exact hi
theorem V_fg_1 {Γ : GE} {d n0 nE : Nat} {M : MD} {Q : Option Value → HP → Prop} {pc n : Nat} {st : List Value} {G : HP} {a0 a1 : Value} {t : List Value} (K : V Γ d n0 nE M Q pc (a0 :: uu :: t) st n G) : V Γ d n0 nE M Q pc (a0 :: a1 :: t) st n G := by
  refine V_fg (ls2 := a0 :: uu :: t) rfl (fun i v hi hv => ?_) K
  match i, hi with
  | 0, hi => exact hi
  | 1, hi => exact absurd (Option.some.inj hi).symm hv
  | i + 2, hi => exact hi
theorem V_fg_2 {Γ : GE} {d n0 nE : Nat} {M : MD} {Q : Option Value → HP → Prop} {pc n : Nat} {st : List Value} {G : HP} {a0 a1 a2 : Value} {t : List Value} (K : V Γ d n0 nE M Q pc (a0 :: a1 :: uu :: t) st n G) : V Γ d n0 nE M Q pc (a0 :: a1 :: a2 :: t) st n G := by
  refine V_fg (ls2 := a0 :: a1 :: uu :: t) rfl (fun i v hi hv => ?_) K
  match i, hi with
  | 0, hi => exact hi
  | 1, hi => exact hi
  | 2, hi => exact absurd (Option.some.inj hi).symm hv
  | i + 3, hi => exact hi
theorem V_fg_3 {Γ : GE} {d n0 nE : Nat} {M : MD} {Q : Option Value → HP → Prop} {pc n : Nat} {st : List Value} {G : HP} {a0 a1 a2 a3 : Value} {t : List Value} (K : V Γ d n0 nE M Q pc (a0 :: a1 :: a2 :: uu :: t) st n G) : V Γ d n0 nE M Q pc (a0 :: a1 :: a2 :: a3 :: t) st n G := by
  refine V_fg (ls2 := a0 :: a1 :: a2 :: uu :: t) rfl (fun i v hi hv => ?_) K
  match i, hi with
  | 0, hi => exact hi
  | 1, hi => exact hi
  | 2, hi => exact hi
  | 3, hi => exact absurd (Option.some.inj hi).symm hv
  | i + 4, hi => exact hi
theorem V_fg_4 {Γ : GE} {d n0 nE : Nat} {M : MD} {Q : Option Value → HP → Prop} {pc n : Nat} {st : List Value} {G : HP} {a0 a1 a2 a3 a4 : Value} {t : List Value} (K : V Γ d n0 nE M Q pc (a0 :: a1 :: a2 :: a3 :: uu :: t) st n G) : V Γ d n0 nE M Q pc (a0 :: a1 :: a2 :: a3 :: a4 :: t) st n G := by
  refine V_fg (ls2 := a0 :: a1 :: a2 :: a3 :: uu :: t) rfl (fun i v hi hv => ?_) K
  match i, hi with
  | 0, hi => exact hi
  | 1, hi => exact hi
  | 2, hi => exact hi
  | 3, hi => exact hi
  | 4, hi => exact absurd (Option.some.inj hi).symm hv
  | i + 5, hi => exact hi
theorem V_fg_5 {Γ : GE} {d n0 nE : Nat} {M : MD} {Q : Option Value → HP → Prop} {pc n : Nat} {st : List Value} {G : HP} {a0 a1 a2 a3 a4 a5 : Value} {t : List Value} (K : V Γ d n0 nE M Q pc (a0 :: a1 :: a2 :: a3 :: a4 :: uu :: t) st n G) : V Γ d n0 nE M Q pc (a0 :: a1 :: a2 :: a3 :: a4 :: a5 :: t) st n G := by
  refine V_fg (ls2 := a0 :: a1 :: a2 :: a3 :: a4 :: uu :: t) rfl (fun i v hi hv => ?_) K
  match i, hi with
  | 0, hi => exact hi
  | 1, hi => exact hi
  | 2, hi => exact hi
  | 3, hi => exact hi
  | 4, hi => exact hi
  | 5, hi => exact absurd (Option.some.inj hi).symm hv
  | i + 6, hi => exact hi
theorem V_fg_6 {Γ : GE} {d n0 nE : Nat} {M : MD} {Q : Option Value → HP → Prop} {pc n : Nat} {st : List Value} {G : HP} {a0 a1 a2 a3 a4 a5 a6 : Value} {t : List Value} (K : V Γ d n0 nE M Q pc (a0 :: a1 :: a2 :: a3 :: a4 :: a5 :: uu :: t) st n G) : V Γ d n0 nE M Q pc (a0 :: a1 :: a2 :: a3 :: a4 :: a5 :: a6 :: t) st n G := by
  refine V_fg (ls2 := a0 :: a1 :: a2 :: a3 :: a4 :: a5 :: uu :: t) rfl (fun i v hi hv => ?_) K
  match i, hi with
  | 0, hi => exact hi
  | 1, hi => exact hi
  | 2, hi => exact hi
  | 3, hi => exact hi
  | 4, hi => exact hi
  | 5, hi => exact hi
  | 6, hi => exact absurd (Option.some.inj hi).symm hv
  | i + 7, hi => exact hi
theorem V_fg_7 {Γ : GE} {d n0 nE : Nat} {M : MD} {Q : Option Value → HP → Prop} {pc n : Nat} {st : List Value} {G : HP} {a0 a1 a2 a3 a4 a5 a6 a7 : Value} {t : List Value} (K : V Γ d n0 nE M Q pc (a0 :: a1 :: a2 :: a3 :: a4 :: a5 :: a6 :: uu :: t) st n G) : V Γ d n0 nE M Q pc (a0 :: a1 :: a2 :: a3 :: a4 :: a5 :: a6 :: a7 :: t) st n G := by
  refine V_fg (ls2 := a0 :: a1 :: a2 :: a3 :: a4 :: a5 :: a6 :: uu :: t) rfl (fun i v hi hv => ?_) K
  match i, hi with
  | 0, hi => exact hi
  | 1, hi => exact hi
  | 2, hi => exact hi
  | 3, hi => exact hi
  | 4, hi => exact hi
  | 5, hi => exact hi
  | 6, hi => exact hi
  | 7, hi => exact absurd (Option.some.inj hi).symm hv
  | i + 8, hi => exact hi
theorem V_fg_8 {Γ : GE} {d n0 nE : Nat} {M : MD} {Q : Option Value → HP → Prop} {pc n : Nat} {st : List Value} {G : HP} {a0 a1 a2 a3 a4 a5 a6 a7 a8 : Value} {t : List Value} (K : V Γ d n0 nE M Q pc (a0 :: a1 :: a2 :: a3 :: a4 :: a5 :: a6 :: a7 :: uu :: t) st n G) : V Γ d n0 nE M Q pc (a0 :: a1 :: a2 :: a3 :: a4 :: a5 :: a6 :: a7 :: a8 :: t) st n G := by
  refine V_fg (ls2 := a0 :: a1 :: a2 :: a3 :: a4 :: a5 :: a6 :: a7 :: uu :: t) rfl (fun i v hi hv => ?_) K
  match i, hi with
  | 0, hi => exact hi
  | 1, hi => exact hi
  | 2, hi => exact hi
  | 3, hi => exact hi
  | 4, hi => exact hi
  | 5, hi => exact hi
  | 6, hi => exact hi
  | 7, hi => exact hi
  | 8, hi => exact absurd (Option.some.inj hi).symm hv
  | i + 9, hi => exact hi
theorem V_fg_9 {Γ : GE} {d n0 nE : Nat} {M : MD} {Q : Option Value → HP → Prop} {pc n : Nat} {st : List Value} {G : HP} {a0 a1 a2 a3 a4 a5 a6 a7 a8 a9 : Value} {t : List Value} (K : V Γ d n0 nE M Q pc (a0 :: a1 :: a2 :: a3 :: a4 :: a5 :: a6 :: a7 :: a8 :: uu :: t) st n G) : V Γ d n0 nE M Q pc (a0 :: a1 :: a2 :: a3 :: a4 :: a5 :: a6 :: a7 :: a8 :: a9 :: t) st n G := by
  refine V_fg (ls2 := a0 :: a1 :: a2 :: a3 :: a4 :: a5 :: a6 :: a7 :: a8 :: uu :: t) rfl (fun i v hi hv => ?_) K
  match i, hi with
  | 0, hi => exact hi
  | 1, hi => exact hi
  | 2, hi => exact hi
  | 3, hi => exact hi
  | 4, hi => exact hi
  | 5, hi => exact hi
  | 6, hi => exact hi
  | 7, hi => exact hi
  | 8, hi => exact hi
  | 9, hi => exact absurd (Option.some.inj hi).symm hv
  | i + 10, hi => exact hi
theorem V_fg_10 {Γ : GE} {d n0 nE : Nat} {M : MD} {Q : Option Value → HP → Prop} {pc n : Nat} {st : List Value} {G : HP} {a0 a1 a2 a3 a4 a5 a6 a7 a8 a9 a10 : Value} {t : List Value} (K : V Γ d n0 nE M Q pc (a0 :: a1 :: a2 :: a3 :: a4 :: a5 :: a6 :: a7 :: a8 :: a9 :: uu :: t) st n G) : V Γ d n0 nE M Q pc (a0 :: a1 :: a2 :: a3 :: a4 :: a5 :: a6 :: a7 :: a8 :: a9 :: a10 :: t) st n G := by
  refine V_fg (ls2 := a0 :: a1 :: a2 :: a3 :: a4 :: a5 :: a6 :: a7 :: a8 :: a9 :: uu :: t) rfl (fun i v hi hv => ?_) K
  match i, hi with
  | 0, hi => exact hi
  | 1, hi => exact hi
  | 2, hi => exact hi
  | 3, hi => exact hi
  | 4, hi => exact hi
  | 5, hi => exact hi
  | 6, hi => exact hi
  | 7, hi => exact hi
  | 8, hi => exact hi
  | 9, hi => exact hi
  | 10, hi => exact absurd (Option.some.inj hi).symm hv
  | i + 11, hi => exact hi
theorem V_fg_11 {Γ : GE} {d n0 nE : Nat} {M : MD} {Q : Option Value → HP → Prop} {pc n : Nat} {st : List Value} {G : HP} {a0 a1 a2 a3 a4 a5 a6 a7 a8 a9 a10 a11 : Value} {t : List Value} (K : V Γ d n0 nE M Q pc (a0 :: a1 :: a2 :: a3 :: a4 :: a5 :: a6 :: a7 :: a8 :: a9 :: a10 :: uu :: t) st n G) : V Γ d n0 nE M Q pc (a0 :: a1 :: a2 :: a3 :: a4 :: a5 :: a6 :: a7 :: a8 :: a9 :: a10 :: a11 :: t) st n G := by
  refine V_fg (ls2 := a0 :: a1 :: a2 :: a3 :: a4 :: a5 :: a6 :: a7 :: a8 :: a9 :: a10 :: uu :: t) rfl (fun i v hi hv => ?_) K
  match i, hi with
  | 0, hi => exact hi
  | 1, hi => exact hi
  | 2, hi => exact hi
  | 3, hi => exact hi
  | 4, hi => exact hi
  | 5, hi => exact hi
  | 6, hi => exact hi
  | 7, hi => exact hi
  | 8, hi => exact hi
  | 9, hi => exact hi
  | 10, hi => exact hi
  | 11, hi => exact absurd (Option.some.inj hi).symm hv
  | i + 12, hi => exact hi
