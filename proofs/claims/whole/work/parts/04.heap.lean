def FL (own : String) (idx ci N j : Nat) (ty : FieldType) (fin : Bool) : Prop := ∃ (C : String) (T : u_T) (tyf : Nat → FieldType), vwCl[ci]? = some (C, T, N) ∧ ci < 20 ∧ j < N ∧ (∀ w ∈ u_ws C T N, w ∈ gw) ∧ (∀ k, k < N → parseFieldDescriptor (T k).2.2.1 = some (tyf k)) ∧ (∀ a, a < N → ∀ b, b < N → a ≠ b → (T a).2.1 ≠ (T b).2.1) ∧ (T j).1 = C ∧ tyf j = ty ∧ (T j).2.2.2 = fin ∧ Cond.fieldLink own idx C (T j).2.1 (T j).2.2.1 ∈ gw
def uH (G : HP) (k j : Nat) (v : Value) : HP := fun a => if a = k then (fun b => if b = j then v else G k b) else G a
theorem uH_ne {G : HP} {k j a : Nat} {v : Value} (h : a ≠ k) : uH G k j v a = G a := if_neg h
theorem uH_k {G : HP} {k j : Nat} {v : Value} : uH G k j v k = fun b => if b = j then v else G k b := if_pos rfl
theorem ent_obj {Γ : GE} {ci N : Nat} {g : Nat → Value} (h : ci < 20) : ent Γ (ci, N) g = .inr (ci, (List.range N).map g) := if_pos h
theorem ent_int {Γ : GE} {N : Nat} {g : Nat → Value} : ent Γ (20, N) g = .inl (gC Γ 0, N, .inl (fun j => i32 (g j))) := rfl
theorem ent_boo {Γ : GE} {N : Nat} {g : Nat → Value} : ent Γ (21, N) g = .inl (gC Γ 1, N, .inl (fun j => i32 (g j))) := rfl
theorem ent_byt {Γ : GE} {N : Nat} {g : Nat → Value} : ent Γ (22, N) g = .inl (gC Γ 2, N, .inl (fun j => i32 (g j))) := rfl
theorem ent_clo {Γ : GE} {N : Nat} {g : Nat → Value} : ent Γ (23, N) g = .inl (gC Γ 3, N, .inr (.inr (.inr (.inr (fun j => rfo (g j)))))) := rfl
theorem ent_img {Γ : GE} {N : Nat} {g : Nat → Value} : ent Γ (24, N) g = .inl (gC Γ 4, N, .inr (.inr (.inr (.inr (fun j => rfo (g j)))))) := rfl
theorem rng_set {N j : Nat} {g : Nat → Value} {v : Value} : ((List.range N).map g).set j v = (List.range N).map (fun b => if b = j then v else g b) := by
  apply List.ext_getElem?
  intro i
  by_cases hi : i = j
  · subst hi
    by_cases hN : i < N
    · rw [List.getElem?_set_self (by simpa using hN)]
      simp [hN]
    · rw [List.getElem?_eq_none (by simp; omega), List.getElem?_eq_none (by simp; omega)]
  · rw [List.getElem?_set_ne (Ne.symm hi)]
    by_cases hN : i < N
    · simp [hN, hi]
    · rw [List.getElem?_eq_none (by simp; omega), List.getElem?_eq_none (by simp; omega)]
theorem vpI {i : Int} {N : Nat} (h0 : 0 ≤ i) (h1 : i < N) (hN : N < 2147483648) : vp_in (Int32.ofInt i) N ∧ (Int32.ofInt i).toNatClampNeg = i.toNat := by
  have hr : Rg i := ⟨by omega, by omega⟩
  refine ⟨vp_in_iff.mpr ⟨by rw [hr.toInt]; exact h0, by rw [hr.toInt]; exact h1⟩, ?_⟩
  rw [← Int32.toNat_toInt, hr.toInt]
theorem vIn {k : Nat} : Int32.ofNat k = Int32.ofInt (k : Int) := (Int32.ofInt_eq_ofNat).symm
theorem V_getf {Γ : GE} {d n0 nE : Nat} {M : MD} {Q : Option Value → HP → Prop} {pc : Nat} {ls st : List Value} {n : Nat} {G : HP} {idx ci N j k : Nat} {ty : FieldType} {fin : Bool} (hd : decode M.2.1 pc = .ok (.getfield idx, 3)) (hf : FL M.1.cls idx ci N j ty fin) (hlay : lay k = (ci, N)) (hk : k < n) (K : V Γ d n0 nE M Q (pc + 3) ls (G k j :: st) n G) : V Γ d n0 nE M Q pc ls (.ref (gB Γ + k) :: st) n G := by
  intro p l e R s m args below meth c Fin C H locs lsA hl hR hS
  obtain ⟨hx, hb, hml, hown, hts, ⟨hSd, hsz⟩, hroom, hnme, hr1, hr2⟩ := id C
  obtain ⟨C0, T, tyf, hc, hci, hj, hin, hty, hnm, hT, hty2, hfin, hw⟩ := hf
  have hat := wsG_at (Γ := Γ) (G := G) hk
  rw [hlay, ent_obj hci] at hat
  exact va_get hx hb hts hin hown hSd.1 hR k hat hc j hj (hts _ hw) (fun x h => by rw [hT] at h; exact h) (v := G k j) (by simp [hj]) hd (K p l e R s m args below meth c Fin C H locs lsA hl hR hS)
theorem V_putf {Γ : GE} {d n0 nE : Nat} {M : MD} {Q : Option Value → HP → Prop} {pc : Nat} {ls st : List Value} {n : Nat} {G : HP} {idx ci N j k : Nat} {ty : FieldType} {v : Value} (hd : decode M.2.1 pc = .ok (.putfield idx, 3)) (hf : FL M.1.cls idx ci N j ty false) (hlay : lay k = (ci, N)) (hk : k < n) (hnar : narrow ty v = v) (hfit : fits ty v = true) (K : V Γ d n0 nE M Q (pc + 3) ls st n (uH G k j v)) : V Γ d n0 nE M Q pc ls (v :: .ref (gB Γ + k) :: st) n G := by
  intro p l e0 R s m args below meth c Fin C H locs lsA hl hR hS
  obtain ⟨hx, hb, hml, hown, hts, ⟨hSd, hsz⟩, hroom, hnme, hr1, hr2⟩ := id C
  obtain ⟨C0, T, tyf, hc, hci, hj, hin, hty, hnm, hT, hty2, hfin, hw⟩ := hf
  have hat := wsG_at (Γ := Γ) (G := G) hk
  rw [hlay, ent_obj hci] at hat
  refine va_put hx hb hts hin tyf hty hnm hown hSd.1 hR wsG_D hS k hat hc j hj (hts _ hw) (fun x h => by rw [hT] at h; exact h) hfin (ty := ty) (v := v) (by rw [hty j hj, hty2]) hnar hfit (by simpa using hj) hd (fun H1 locs1 hP1 hD1 hS1 => ?_)
  have e := wsG_set (Γ := Γ) (G := G) (G2 := uH G k j v) hk (fun a ha => uH_ne ha)
  rw [hlay, ent_obj hci, uH_k, ← rng_set] at e
  rw [e] at hP1
  exact K p l e0 R s m args below meth c Fin C H1 locs1 lsA hl hP1 hS1
theorem V_putF {Γ : GE} {d n0 nE : Nat} {M : MD} {Q : Option Value → HP → Prop} {pc : Nat} {ls st : List Value} {n : Nat} {G : HP} {idx ci N j k : Nat} {ty : FieldType} {v : Value} (hd : decode M.2.1 pc = .ok (.putfield idx, 3)) (hf : FL M.1.cls idx ci N j ty true) (hlay : lay k = (ci, N)) (hk : k < n) (hnar : narrow ty v = v) (hfit : fits ty v = true) (hin2 : M.1.name = "<init>") (hcl : (vwCl.getD ci ("", fun _ => ("", "", "", false), 0)).1 = M.1.cls) (K : V Γ d n0 nE M Q (pc + 3) ls st n (uH G k j v)) : V Γ d n0 nE M Q pc ls (v :: .ref (gB Γ + k) :: st) n G := by
  intro p l e0 R s m args below meth c Fin C H locs lsA hl hR hS
  obtain ⟨hx, hb, hml, hown, hts, ⟨hSd, hsz⟩, hroom, hnme, hr1, hr2⟩ := id C
  obtain ⟨C0, T, tyf, hc, hci, hj, hin, hty, hnm, hT, hty2, hfin, hw⟩ := hf
  have hown2 : C0 = M.1.cls := by rw [← hcl, List.getD_eq_getElem?_getD, hc]; rfl
  have hat := wsG_at (Γ := Γ) (G := G) hk
  rw [hlay, ent_obj hci] at hat
  refine va_putF hx hb hts hin tyf hty hnm hown hSd.1 hR wsG_D hS k hat hc j hj (hts _ hw) (fun x h => by rw [hT] at h; exact h) hfin (hnme.trans hin2) (hT.trans hown2) (ty := ty) (v := v) (by rw [hty j hj, hty2]) hnar hfit (by simpa using hj) hd (fun H1 locs1 hP1 hD1 hS1 => ?_)
  have e := wsG_set (Γ := Γ) (G := G) (G2 := uH G k j v) hk (fun a ha => uH_ne ha)
  rw [hlay, ent_obj hci, uH_k, ← rng_set] at e
  rw [e] at hP1
  exact K p l e0 R s m args below meth c Fin C H1 locs1 lsA hl hP1 hS1
theorem V_iald {Γ : GE} {d n0 nE : Nat} {M : MD} {Q : Option Value → HP → Prop} {pc : Nat} {ls st : List Value} {n : Nat} {G : HP} {k N : Nat} {i : Int} (hd : decode M.2.1 pc = .ok (.iaload, 1)) (hlay : lay k = (20, N)) (hk : k < n) (hN : N < 2147483648) (h0 : 0 ≤ i) (h1 : i < N) (K : V Γ d n0 nE M Q (pc + 1) ls (.int (i32 (G k i.toNat)) :: st) n G) : V Γ d n0 nE M Q pc ls (vI i :: .ref (gB Γ + k) :: st) n G := by
  intro p l e R s m args below meth c Fin C H locs lsA hl hR hS
  obtain ⟨hx, hb, hml, hown, hts, ⟨hSd, hsz⟩, hroom, hnme, hr1, hr2⟩ := id C
  have hat := wsG_at (Γ := Γ) (G := G) hk
  rw [hlay, ent_int] at hat
  obtain ⟨g1, g2⟩ := vpI h0 h1 hN
  refine va_iald hx hb hSd.1 hR k 0 hat rfl g1 hd ?_
  rw [g2]
  exact (K p l e R s m args below meth c Fin C H locs lsA hl hR hS)
theorem V_zald {Γ : GE} {d n0 nE : Nat} {M : MD} {Q : Option Value → HP → Prop} {pc : Nat} {ls st : List Value} {n : Nat} {G : HP} {k N : Nat} {i : Int} (hd : decode M.2.1 pc = .ok (.baload, 1)) (hlay : lay k = (21, N)) (hk : k < n) (hN : N < 2147483648) (h0 : 0 ≤ i) (h1 : i < N) (K : V Γ d n0 nE M Q (pc + 1) ls (.int (i32 (G k i.toNat)) :: st) n G) : V Γ d n0 nE M Q pc ls (vI i :: .ref (gB Γ + k) :: st) n G := by
  intro p l e R s m args below meth c Fin C H locs lsA hl hR hS
  obtain ⟨hx, hb, hml, hown, hts, ⟨hSd, hsz⟩, hroom, hnme, hr1, hr2⟩ := id C
  have hat := wsG_at (Γ := Γ) (G := G) hk
  rw [hlay, ent_boo] at hat
  obtain ⟨g1, g2⟩ := vpI h0 h1 hN
  refine va_zald hx hb hSd.1 hR k 1 hat rfl g1 hd ?_
  rw [g2]
  exact (K p l e R s m args below meth c Fin C H locs lsA hl hR hS)
theorem V_bald {Γ : GE} {d n0 nE : Nat} {M : MD} {Q : Option Value → HP → Prop} {pc : Nat} {ls st : List Value} {n : Nat} {G : HP} {k N : Nat} {i : Int} (hd : decode M.2.1 pc = .ok (.baload, 1)) (hlay : lay k = (22, N)) (hk : k < n) (hN : N < 2147483648) (h0 : 0 ≤ i) (h1 : i < N) (K : V Γ d n0 nE M Q (pc + 1) ls (.int (i32 (G k i.toNat)) :: st) n G) : V Γ d n0 nE M Q pc ls (vI i :: .ref (gB Γ + k) :: st) n G := by
  intro p l e R s m args below meth c Fin C H locs lsA hl hR hS
  obtain ⟨hx, hb, hml, hown, hts, ⟨hSd, hsz⟩, hroom, hnme, hr1, hr2⟩ := id C
  have hat := wsG_at (Γ := Γ) (G := G) hk
  rw [hlay, ent_byt] at hat
  obtain ⟨g1, g2⟩ := vpI h0 h1 hN
  refine va_bald hx hb hSd.1 hR k 2 hat rfl g1 hd ?_
  rw [g2]
  exact (K p l e R s m args below meth c Fin C H locs lsA hl hR hS)
theorem V_iast {Γ : GE} {d n0 nE : Nat} {M : MD} {Q : Option Value → HP → Prop} {pc : Nat} {ls st : List Value} {n : Nat} {G : HP} {k N : Nat} {i z : Int} (hd : decode M.2.1 pc = .ok (.iastore, 1)) (hlay : lay k = (20, N)) (hk : k < n) (hN : N < 2147483648) (h0 : 0 ≤ i) (h1 : i < N) (K : V Γ d n0 nE M Q (pc + 1) ls st n (uH G k i.toNat (vI z))) : V Γ d n0 nE M Q pc ls (vI z :: vI i :: .ref (gB Γ + k) :: st) n G := by
  intro p l e R s m args below meth c Fin C H locs lsA hl hR hS
  obtain ⟨hx, hb, hml, hown, hts, ⟨hSd, hsz⟩, hroom, hnme, hr1, hr2⟩ := id C
  have hat := wsG_at (Γ := Γ) (G := G) hk
  rw [hlay, ent_int] at hat
  obtain ⟨g1, g2⟩ := vpI h0 h1 hN
  refine va_iast hx hb hSd.1 hR wsG_D hS k 0 hat rfl (x := Int32.ofInt z) g1 hd (fun H1 locs1 hP1 hD1 hS1 => ?_)
  have e2 := wsG_set (Γ := Γ) (G := G) (G2 := uH G k i.toNat (vI z)) hk (fun a ha => uH_ne ha)
  rw [hlay, ent_int, uH_k] at e2
  rw [g2] at hP1
  have e3 : (fun j => i32 ((fun b => if b = i.toNat then vI z else G k b) j)) = upd (fun j => i32 (G k j)) i.toNat (Int32.ofInt z) := by
    funext j
    by_cases hj : j = i.toNat
    · simp [hj, upd, i32, vI]
    · simp [hj, upd]
  rw [e3] at e2
  rw [e2] at hP1
  exact K p l e R s m args below meth c Fin C H1 locs1 lsA hl hP1 hS1
theorem V_zast {Γ : GE} {d n0 nE : Nat} {M : MD} {Q : Option Value → HP → Prop} {pc : Nat} {ls st : List Value} {n : Nat} {G : HP} {k N : Nat} {i z : Int} (hd : decode M.2.1 pc = .ok (.bastore, 1)) (hlay : lay k = (21, N)) (hk : k < n) (hN : N < 2147483648) (h0 : 0 ≤ i) (h1 : i < N) (hz : vp_nar .boolean (Int32.ofInt z) = Int32.ofInt z) (K : V Γ d n0 nE M Q (pc + 1) ls st n (uH G k i.toNat (vI z))) : V Γ d n0 nE M Q pc ls (vI z :: vI i :: .ref (gB Γ + k) :: st) n G := by
  intro p l e R s m args below meth c Fin C H locs lsA hl hR hS
  obtain ⟨hx, hb, hml, hown, hts, ⟨hSd, hsz⟩, hroom, hnme, hr1, hr2⟩ := id C
  have hat := wsG_at (Γ := Γ) (G := G) hk
  rw [hlay, ent_boo] at hat
  obtain ⟨g1, g2⟩ := vpI h0 h1 hN
  refine va_zast hx hb hSd.1 hR wsG_D hS k 1 hat rfl (x := Int32.ofInt z) g1 hd (fun H1 locs1 hP1 hD1 hS1 => ?_)
  have e2 := wsG_set (Γ := Γ) (G := G) (G2 := uH G k i.toNat (vI z)) hk (fun a ha => uH_ne ha)
  rw [hlay, ent_boo, uH_k] at e2
  rw [g2] at hP1
  rw [hz] at hP1
  have e3 : (fun j => i32 ((fun b => if b = i.toNat then vI z else G k b) j)) = upd (fun j => i32 (G k j)) i.toNat (Int32.ofInt z) := by
    funext j
    by_cases hj : j = i.toNat
    · simp [hj, upd, i32, vI]
    · simp [hj, upd]
  rw [e3] at e2
  rw [e2] at hP1
  exact K p l e R s m args below meth c Fin C H1 locs1 lsA hl hP1 hS1
theorem V_bast {Γ : GE} {d n0 nE : Nat} {M : MD} {Q : Option Value → HP → Prop} {pc : Nat} {ls st : List Value} {n : Nat} {G : HP} {k N : Nat} {i z : Int} (hd : decode M.2.1 pc = .ok (.bastore, 1)) (hlay : lay k = (22, N)) (hk : k < n) (hN : N < 2147483648) (h0 : 0 ≤ i) (h1 : i < N) (hz : vp_nar .byte (Int32.ofInt z) = Int32.ofInt z) (K : V Γ d n0 nE M Q (pc + 1) ls st n (uH G k i.toNat (vI z))) : V Γ d n0 nE M Q pc ls (vI z :: vI i :: .ref (gB Γ + k) :: st) n G := by
  intro p l e R s m args below meth c Fin C H locs lsA hl hR hS
  obtain ⟨hx, hb, hml, hown, hts, ⟨hSd, hsz⟩, hroom, hnme, hr1, hr2⟩ := id C
  have hat := wsG_at (Γ := Γ) (G := G) hk
  rw [hlay, ent_byt] at hat
  obtain ⟨g1, g2⟩ := vpI h0 h1 hN
  refine va_bast hx hb hSd.1 hR wsG_D hS k 2 hat rfl (x := Int32.ofInt z) g1 hd (fun H1 locs1 hP1 hD1 hS1 => ?_)
  have e2 := wsG_set (Γ := Γ) (G := G) (G2 := uH G k i.toNat (vI z)) hk (fun a ha => uH_ne ha)
  rw [hlay, ent_byt, uH_k] at e2
  rw [g2] at hP1
  rw [hz] at hP1
  have e3 : (fun j => i32 ((fun b => if b = i.toNat then vI z else G k b) j)) = upd (fun j => i32 (G k j)) i.toNat (Int32.ofInt z) := by
    funext j
    by_cases hj : j = i.toNat
    · simp [hj, upd, i32, vI]
    · simp [hj, upd]
  rw [e3] at e2
  rw [e2] at hP1
  exact K p l e R s m args below meth c Fin C H1 locs1 lsA hl hP1 hS1
theorem V_aald3 {Γ : GE} {d n0 nE : Nat} {M : MD} {Q : Option Value → HP → Prop} {pc : Nat} {ls st : List Value} {n : Nat} {G : HP} {k N : Nat} {i : Int} {a : Nat} (hd : decode M.2.1 pc = .ok (.aaload, 1)) (hlay : lay k = (23, N)) (hk : k < n) (hN : N < 2147483648) (h0 : 0 ≤ i) (h1 : i < N) (ha : G k i.toNat = .ref a) (K : V Γ d n0 nE M Q (pc + 1) ls (.ref a :: st) n G) : V Γ d n0 nE M Q pc ls (vI i :: .ref (gB Γ + k) :: st) n G := by
  intro p l e R s m args below meth c Fin C H locs lsA hl hR hS
  obtain ⟨hx, hb, hml, hown, hts, ⟨hSd, hsz⟩, hroom, hnme, hr1, hr2⟩ := id C
  have hat := wsG_at (Γ := Γ) (G := G) hk
  rw [hlay, ent_clo] at hat
  obtain ⟨g1, g2⟩ := vpI h0 h1 hN
  refine va_aldq hx hb hSd.1 hR k 3 hat rfl g1 hd ?_
  rw [g2, ha]
  exact (K p l e R s m args below meth c Fin C H locs lsA hl hR hS)
theorem V_aald4 {Γ : GE} {d n0 nE : Nat} {M : MD} {Q : Option Value → HP → Prop} {pc : Nat} {ls st : List Value} {n : Nat} {G : HP} {k N : Nat} {i : Int} {a : Nat} (hd : decode M.2.1 pc = .ok (.aaload, 1)) (hlay : lay k = (24, N)) (hk : k < n) (hN : N < 2147483648) (h0 : 0 ≤ i) (h1 : i < N) (ha : G k i.toNat = .ref a) (K : V Γ d n0 nE M Q (pc + 1) ls (.ref a :: st) n G) : V Γ d n0 nE M Q pc ls (vI i :: .ref (gB Γ + k) :: st) n G := by
  intro p l e R s m args below meth c Fin C H locs lsA hl hR hS
  obtain ⟨hx, hb, hml, hown, hts, ⟨hSd, hsz⟩, hroom, hnme, hr1, hr2⟩ := id C
  have hat := wsG_at (Γ := Γ) (G := G) hk
  rw [hlay, ent_img] at hat
  obtain ⟨g1, g2⟩ := vpI h0 h1 hN
  refine va_aldq hx hb hSd.1 hR k 4 hat rfl g1 hd ?_
  rw [g2, ha]
  exact (K p l e R s m args below meth c Fin C H locs lsA hl hR hS)
theorem V_gets {Γ : GE} {d n0 nE : Nat} {M : MD} {Q : Option Value → HP → Prop} {pc : Nat} {ls st : List Value} {n : Nat} {G : HP} {idx i : Nat} (hd : decode M.2.1 pc = .ok (.getstatic idx, 3)) (hi : i < 5) (hw : (M.1.cls, idx, "ButtonTin", (snm i).1, "[I", "ButtonTin") ∈ nstF) (K : V Γ d n0 nE M Q (pc + 3) ls (.ref (gS Γ (i + 1)) :: st) n G) : V Γ d n0 nE M Q pc ls st n G := by
  intro p l e R s m args below meth c Fin C H locs lsA hl hR hS
  obtain ⟨hx, hb, hml, hown, hts, ⟨hSd, hsz⟩, hroom, hnme, hr1, hr2⟩ := id C
  have hZ := (hSd.2.2.2.2.2.1 i hi).1
  exact va_getsN hx hb hZ hS hown (va_Nw.use rfl (hSd.2.2.1 _ hw)) (fun x h => h) hd (K p l e R s m args below meth c Fin C H locs lsA hl hR hS)
theorem V_sald {Γ : GE} {d n0 nE : Nat} {M : MD} {Q : Option Value → HP → Prop} {pc : Nat} {ls st : List Value} {n : Nat} {G : HP} {i : Nat} {j z : Int} (hd : decode M.2.1 pc = .ok (.iaload, 1)) (hi : i < 5) (h0 : 0 ≤ j) (h1 : j < (snm i).2) (hz : sval i j.toNat = Int32.ofInt z) (K : V Γ d n0 nE M Q (pc + 1) ls (vI z :: st) n G) : V Γ d n0 nE M Q pc ls (vI j :: .ref (gS Γ (i + 1)) :: st) n G := by
  intro p l e R s m args below meth c Fin C H locs lsA hl hR hS
  obtain ⟨hx, hb, hml, hown, hts, ⟨hSd, hsz⟩, hroom, hnme, hr1, hr2⟩ := id C
  have hT := (hSd.2.2.2.2.2.1 i hi).2
  have hN : (snm i).2 < 2147483648 := by
    have : ∀ i, i < 5 → (snm i).2 < 2147483648 := by decide
    exact this i hi
  obtain ⟨g1, g2⟩ := vpI h0 h1 hN
  exact va_ti hx hb hT hS g1 (v := vI z) (by rw [g2, hz]; rfl) hd (K p l e R s m args below meth c Fin C H locs lsA hl hR hS)
theorem V_xald {Γ : GE} {d n0 nE : Nat} {M : MD} {Q : Option Value → HP → Prop} {pc : Nat} {ls st : List Value} {n : Nat} {G : HP} {j : Int} (hd : decode M.2.1 pc = .ok (.iaload, 1)) (hL : gL Γ < 2147483648) (h0 : 0 ≤ j) (h1 : j < gL Γ) (K : V Γ d n0 nE M Q (pc + 1) ls (vI (gX Γ j.toNat).toInt :: st) n G) : V Γ d n0 nE M Q pc ls (vI j :: .ref (gS Γ 0) :: st) n G := by
  intro p l e R s m args below meth c Fin C H locs lsA hl hR hS
  obtain ⟨hx, hb, hml, hown, hts, ⟨hSd, hsz⟩, hroom, hnme, hr1, hr2⟩ := id C
  have hT := hSd.2.2.2.2.2.2.1
  obtain ⟨g1, g2⟩ := vpI h0 h1 hL
  exact va_ti hx hb hT hS g1 (v := vI (gX Γ j.toNat).toInt) (by rw [g2, vI_toInt]) hd (K p l e R s m args below meth c Fin C H locs lsA hl hR hS)
theorem V_xlen {Γ : GE} {d n0 nE : Nat} {M : MD} {Q : Option Value → HP → Prop} {pc : Nat} {ls st : List Value} {n : Nat} {G : HP} (hd : decode M.2.1 pc = .ok (.arraylength, 1)) (K : V Γ d n0 nE M Q (pc + 1) ls (vI (gL Γ : Int) :: st) n G) : V Γ d n0 nE M Q pc ls (.ref (gS Γ 0) :: st) n G := by
  intro p l e R s m args below meth c Fin C H locs lsA hl hR hS
  obtain ⟨hx, hb, hml, hown, hts, ⟨hSd, hsz⟩, hroom, hnme, hr1, hr2⟩ := id C
  obtain ⟨cell, h1, h2, h3, h4, h5, h6, h7⟩ := hSd.2.2.2.2.2.2.1
  exact W.alen hx hb (by rw [hS.2.1 _ (Array.getElem?_eq_some_iff.mp h1).1 h7]; exact h1) h2 (by rw [h5, vIn]) rfl rfl hd (K p l e R s m args below meth c Fin C H locs lsA hl hR hS)
def CeM (My : MD) (k : Nat) : Prop := Cond.code My.1 My.2.1 My.2.2.1 My.2.2.2 ∈ gw ∧ Cond.initialized My.1.cls ∈ gw ∧ (My.1.cls ≠ "java/lang/invoke/MethodHandle" ∧ My.1.cls ≠ "java/lang/invoke/VarHandle" ∧ (parseMethodDescriptor My.1.desc).map (fun d => d.parameters.length) = some k) ∧ My.2.2.1 ≤ 19
def CeV (My : MD) (k : Nat) : Prop := CeM My k ∧ Cond.instanceMethod My.1 ∈ gw ∧ Cond.selects My.1.cls My.1 My.1 ∈ gw
def CeS (My : MD) (k : Nat) : Prop := CeM My k ∧ Cond.static My.1 ∈ gw
def CeI (My : MD) (k : Nat) : Prop := CeM My k ∧ Cond.instanceMethod My.1 ∈ gw ∧ My.1.name = "<init>" ∧ My.2.2.2 = none
theorem wsM_good {My : MD} {k : Nat} (h : CeM My k) : GoodIn gw (wsM My) := fun w hw => by
  rcases List.mem_cons.mp hw with rfl | hw
  · exact ⟨h.1, gw_good h.1⟩
  · exact ⟨hw, gw_good hw⟩
theorem Pc_blind {Γ : GE} {n0 : Nat} {av : List Value} {G : HP} : FrameBlind (va_Pc av (fun U => (Sd Γ U ∧ U.heap.size = gB Γ + n0) ∧ Rl Γ n0 G U.heap)) := by
  intro a U g mk ⟨h1, ⟨h2, h3⟩, h4⟩
  exact ⟨h1, ⟨Sd.to (s := U) (U := U.calling g mk a) (locs := []) h2 (State.WarmedH.refl U) va_S.rf, h3⟩, h4⟩
theorem roomOk {d dc mL : Nat} {R : Room} {mc ms : Nat} (h1 : d ≤ R.frames) (h2 : 38 * d ≤ R.locals) (h : dc + 1 ≤ d) (hm : mL ≤ 19) : (rmD dc mc ms).frames + 1 ≤ R.frames ∧ 8 + (mL + 11) + (rmD dc mc ms).locals ≤ R.locals := by
  refine ⟨Nat.le_trans h h1, ?_⟩
  show 8 + (mL + 11) + 38 * dc ≤ R.locals
  omega
theorem szOk {Γ : GE} {n0 n : Nat} {G : HP} {s : State} {H : Heap} {locs : List Loc} (hn : n0 ≤ n) (hs : s.heap.size = gB Γ + n0) (hR : Rl Γ n G H) (hS : va_S (hA Γ) s.heap H locs) (h : H.size ≤ s.heap.size + (n - n0)) : H.size = gB Γ + n := by
  have h1 := hS.1
  rcases Nat.lt_or_ge n0 n with q | q
  · have h2 := (hR (n - 1) _ (wsG_at (by omega))).lt
    dsimp only at h2
    omega
  · omega
/-- what a call gives: the callee's end, and the walk goes on -/
theorem V_back {Γ : GE} {d n0 nE : Nat} {M : MD} {Q : Option Value → HP → Prop} {pc : Nat} {ls st : List Value} {n : Nat} {nC : Nat} {st0 : List Value} {Qc : Option Value → HP → Prop} {p : Program} {l : Launch} {e : Env} {R : Room} {s : State} {m : MethodId} {args : Array Value} {below : List Frame} {meth : Method} {c : Code} {Fin : State → Prop} {H : Heap} {locs : List Loc} {lsA : Array Slot} {a : Array Value} (C : Cx Γ d n0 nE M Q p l e R s m args below meth c Fin) (hl : Lc lsA M.2.2.1 ls) (hS : va_S (hA Γ) s.heap H locs) (h0 : n0 ≤ n) (h1 : n ≤ nC)
    (hr : va_Run p l e R s m args below meth c H locs (n - n0) (tot n - tot n0) (nC - n) (tot nC - tot n) (F0 m pc lsA st0) st (Qm Γ nC Qc a) (hA Γ)) (K : ∀ (v : Option Value) (G' : HP), Qc v G' → V Γ d n0 nE M Q (pc + 3) ls (v.toList ++ st) nC G') : W p l e R s m args below meth c H locs (n - n0) (tot n - tot n0) Fin (F0 m pc lsA st0) := by
  intro T hT X
  obtain ⟨v, st₀, t, T', L, q0, X', hL, e1, e2, ⟨⟨v', G', hv, hq, hRt⟩, hz, hk⟩, go⟩ := hr T hT X
  cases hv
  rw [q0] at hz hk
  have hS' : va_S (hA Γ) s.heap T'.heap (locs ++ L) := ⟨Nat.le_trans hS.1 (by rw [e1]; exact hz), fun q g1 g2 => by rw [e1, hk q (Nat.lt_of_lt_of_le g1 hS.1) g2]; exact hS.2.1 q g1 g2, fun q hq => by
      rcases List.mem_append.mp hq with h | h
      · exact hS.2.2 q h
      · exact hL q h⟩
  have ec : n - n0 + (nC - n) = nC - n0 := by omega
  have es : tot n - tot n0 + (tot nC - tot n) = tot nC - tot n0 := by
    have := tot_mono h0
    have := tot_mono h1
    omega
  rw [ec, es] at X'
  obtain ⟨t2, a1, b1⟩ := K v G' hq p l e R s m args below meth c Fin C T'.heap (locs ++ L) lsA hl (by rw [e1]; exact hRt) hS' T' rfl X'
  exact ⟨t2, go t2 a1, b1⟩
theorem preOk {Γ : GE} {n : Nat} {G : HP} {s : State} {H : Heap} {locs : List Loc} {av : List Value} (hSd : Sd Γ s) (hR : Rl Γ n G H) (hS : va_S (hA Γ) s.heap H locs) (hz : H.size = gB Γ + n) : PreS s H (va_Pc av (fun U => (Sd Γ U ∧ U.heap.size = gB Γ + n) ∧ Rl Γ n G U.heap)) av :=
  ⟨Pc_blind, fun U hU hW => ⟨rfl, ⟨Sd.to (locs := locs) hSd hW (by rw [hU]; exact hS), by rw [hU]; exact hz⟩, by rw [hU]; exact hR⟩⟩
theorem spOk {n0 n nC nE : Nat} {R : Room} (h0 : n0 ≤ n) (h1 : n ≤ nC) (h2 : nC ≤ nE) (hc : nE - n0 ≤ R.cells) (hs : tot nE - tot n0 ≤ R.slots) : n - n0 + (nC - n) ≤ R.cells ∧ tot n - tot n0 + (tot nC - tot n) ≤ R.slots := by
  have := tot_mono h0
  have := tot_mono h1
  have := tot_mono h2
  constructor <;> omega
theorem V_callV {Γ : GE} {d n0 nE : Nat} {M : MD} {Q : Option Value → HP → Prop} {pc : Nat} {ls st : List Value} {n : Nat} {G : HP} {idx k kid ci N nC dc : Nat} {My : MD} {As : List Value} {Qc : Option Value → HP → Prop} (hd : decode M.2.1 pc = .ok (.invokevirtual idx, 3)) (hlk : Cond.methodLink M.1.cls idx My.1 ∈ gw) (hce : CeV My k) (hAs : As.length = k) (hlay : lay kid = (ci, N)) (hci : ci < 20) (hcl : ∃ T, vwCl[ci]? = some (My.1.cls, T, N)) (hk : kid < n) (h0 : n0 ≤ n) (h1 : n ≤ nC) (h2 : nC ≤ nE) (hdd : dc + 1 ≤ d) (hsum : (st.map fun v => v.category).sum ≤ 8) (hC : CV Γ dc n nC My (.ref (gB Γ + kid) :: As) G Qc) (K : ∀ (v : Option Value) (G' : HP), Qc v G' → V Γ d n0 nE M Q (pc + 3) ls (v.toList ++ st) nC G') : V Γ d n0 nE M Q pc ls (As.reverse ++ .ref (gB Γ + kid) :: st) n G := by
  intro p l e R s m args below meth c Fin C H locs lsA hl hR hS
  obtain ⟨hx, hb, hml, hown, hts, ⟨hSd, hsz⟩, hroom, hnme, hr1, hr2⟩ := id C
  refine W.szI (fun hz => ?_)
  have hz := szOk h0 hsz hR hS hz
  obtain ⟨T, hcl⟩ := hcl
  have hat := wsG_at (Γ := Γ) (G := G) hk
  rw [hlay, ent_obj hci] at hat
  have hP := preOk (av := (.ref (gB Γ + kid) :: As)) hSd hR hS hz
  exact V_back C hl hS h0 h1 (va_runV (nL := M.2.2.1) ⟨hx, hb, hml, hown, hts⟩ (hC l) ⟨callB_of k hts (wsM_good hce.1) rfl rfl rfl (hts _ hce.1.2.1) (hts _ hlk) hce.1.2.2.1 (roomOk hroom.1 hroom.2.1 hdd hce.1.2.2.2), hts _ hce.2.1, hts _ hce.2.2⟩ ⟨hP.1, va_recv hSd.1 hR hcl hat, hP.2⟩ rfl hAs hl.1.1 rfl (lv_room hsum) hd (spOk h0 h1 h2 hroom.2.2.1 hroom.2.2.2)) K
theorem V_callX {Γ : GE} {d n0 nE : Nat} {M : MD} {Q : Option Value → HP → Prop} {pc : Nat} {ls st : List Value} {n : Nat} {G : HP} {idx k nC dc : Nat} {My : MD} {As : List Value} {Qc : Option Value → HP → Prop} (hd : decode M.2.1 pc = .ok (.invokevirtual idx, 3)) (hlk : Cond.methodLink M.1.cls idx My.1 ∈ gw) (hce : CeV My k) (hAs : As.length = k) (hcl : My.1.cls = "java/lang/String") (h0 : n0 ≤ n) (h1 : n ≤ nC) (h2 : nC ≤ nE) (hdd : dc + 1 ≤ d) (hsum : (st.map fun v => v.category).sum ≤ 8) (hC : CV Γ dc n nC My (.ref (gS Γ 6) :: As) G Qc) (K : ∀ (v : Option Value) (G' : HP), Qc v G' → V Γ d n0 nE M Q (pc + 3) ls (v.toList ++ st) nC G') : V Γ d n0 nE M Q pc ls (As.reverse ++ .ref (gS Γ 6) :: st) n G := by
  intro p l e R s m args below meth c Fin C H locs lsA hl hR hS
  obtain ⟨hx, hb, hml, hown, hts, ⟨hSd, hsz⟩, hroom, hnme, hr1, hr2⟩ := id C
  refine W.szI (fun hz => ?_)
  have hz := szOk h0 hsz hR hS hz
  have hP := preOk (av := (.ref (gS Γ 6) :: As)) hSd hR hS hz
  have hrc := vk_recv hSd.2.2.2.2.2.2.2.2.2 (i := 0) (by decide) hS
  rw [← hcl] at hrc
  exact V_back C hl hS h0 h1 (va_runV (nL := M.2.2.1) ⟨hx, hb, hml, hown, hts⟩ (hC l) ⟨callB_of k hts (wsM_good hce.1) rfl rfl rfl (hts _ hce.1.2.1) (hts _ hlk) hce.1.2.2.1 (roomOk hroom.1 hroom.2.1 hdd hce.1.2.2.2), hts _ hce.2.1, hts _ hce.2.2⟩ ⟨hP.1, hrc, hP.2⟩ rfl hAs hl.1.1 rfl (lv_room hsum) hd (spOk h0 h1 h2 hroom.2.2.1 hroom.2.2.2)) K
theorem V_callS {Γ : GE} {d n0 nE : Nat} {M : MD} {Q : Option Value → HP → Prop} {pc : Nat} {ls st : List Value} {n : Nat} {G : HP} {idx k nC dc : Nat} {My : MD} {As : List Value} {Qc : Option Value → HP → Prop} (hd : decode M.2.1 pc = .ok (.invokestatic idx, 3)) (hlk : Cond.methodLink M.1.cls idx My.1 ∈ gw) (hce : CeS My k) (hAs : As.length = k) (h0 : n0 ≤ n) (h1 : n ≤ nC) (h2 : nC ≤ nE) (hdd : dc + 1 ≤ d) (hsum : (st.map fun v => v.category).sum ≤ 8) (hC : CV Γ dc n nC My As G Qc) (K : ∀ (v : Option Value) (G' : HP), Qc v G' → V Γ d n0 nE M Q (pc + 3) ls (v.toList ++ st) nC G') : V Γ d n0 nE M Q pc ls (As.reverse ++ st) n G := by
  intro p l e R s m args below meth c Fin C H locs lsA hl hR hS
  obtain ⟨hx, hb, hml, hown, hts, ⟨hSd, hsz⟩, hroom, hnme, hr1, hr2⟩ := id C
  refine W.szI (fun hz => ?_)
  have hz := szOk h0 hsz hR hS hz
  have hP := preOk (av := As) hSd hR hS hz
  exact V_back C hl hS h0 h1 (va_runS (nL := M.2.2.1) ⟨hx, hb, hml, hown, hts⟩ (hC l) ⟨callB_of k hts (wsM_good hce.1) rfl rfl rfl (hts _ hce.1.2.1) (hts _ hlk) hce.1.2.2.1 (roomOk hroom.1 hroom.2.1 hdd hce.1.2.2.2), hts _ hce.2⟩ hP rfl hAs hl.1.1 rfl (lv_room hsum) hd (spOk h0 h1 h2 hroom.2.2.1 hroom.2.2.2)) K
theorem V_callI {Γ : GE} {d n0 nE : Nat} {M : MD} {Q : Option Value → HP → Prop} {pc : Nat} {ls st : List Value} {n : Nat} {G : HP} {idx k nC dc b : Nat} {My : MD} {As : List Value} {Qc : Option Value → HP → Prop} (hd : decode M.2.1 pc = .ok (.invokespecial idx, 3)) (hlk : Cond.methodLink M.1.cls idx My.1 ∈ gw) (hce : CeI My k) (hAs : As.length = k) (h0 : n0 ≤ n) (h1 : n ≤ nC) (h2 : nC ≤ nE) (hdd : dc + 1 ≤ d) (hsum : (st.map fun v => v.category).sum ≤ 8) (hC : CV Γ dc n nC My (.ref b :: As) G Qc) (K : ∀ (v : Option Value) (G' : HP), Qc v G' → V Γ d n0 nE M Q (pc + 3) ls (v.toList ++ st) nC G') : V Γ d n0 nE M Q pc ls (As.reverse ++ .ref b :: st) n G := by
  intro p l e R s m args below meth c Fin C H locs lsA hl hR hS
  obtain ⟨hx, hb, hml, hown, hts, ⟨hSd, hsz⟩, hroom, hnme, hr1, hr2⟩ := id C
  refine W.szI (fun hz => ?_)
  have hz := szOk h0 hsz hR hS hz
  have hP := preOk (av := .ref b :: As) hSd hR hS hz
  have hin9 := hce.2.2.2
  exact V_back C hl hS h0 h1 (va_runI (bytes := My.2.1) (maxL := My.2.2.1) (nL := M.2.2.1) ⟨hx, hb, hml, hown, hts⟩ (hC l) ⟨hin9 ▸ callB_of k hts (wsM_good hce.1) rfl rfl rfl (hts _ hce.1.2.1) (hts _ hlk) hce.1.2.2.1 (roomOk hroom.1 hroom.2.1 hdd hce.1.2.2.2), hce.2.2.1, hts _ hce.2.1⟩ hP rfl hAs hl.1.1 rfl (lv_room hsum) hd (spOk h0 h1 h2 hroom.2.2.1 hroom.2.2.2)) K
theorem V_callSN {Γ : GE} {d n0 nE : Nat} {M : MD} {Q : Option Value → HP → Prop} {pc : Nat} {ls st : List Value} {n : Nat} {G : HP} {idx k nC dc : Nat} {My : MD} {As : List Value} {Qc : Option Value → HP → Prop} (hd : decode M.2.1 pc = .ok (.invokestatic idx, 3)) (hlk : (M.1.cls, idx, My.1, "ButtonTin") ∈ nstM) (hce : CeS My k) (hAs : As.length = k) (h0 : n0 ≤ n) (h1 : n ≤ nC) (h2 : nC ≤ nE) (hdd : dc + 1 ≤ d) (hsum : (st.map fun v => v.category).sum ≤ 8) (hC : CV Γ dc n nC My As G Qc) (K : ∀ (v : Option Value) (G' : HP), Qc v G' → V Γ d n0 nE M Q (pc + 3) ls (v.toList ++ st) nC G') : V Γ d n0 nE M Q pc ls (As.reverse ++ st) n G := by
  intro p l e R s m args below meth c Fin C H locs lsA hl hR hS
  obtain ⟨hx, hb, hml, hown, hts, ⟨hSd, hsz⟩, hroom, hnme, hr1, hr2⟩ := id C
  refine W.szI (fun hz => ?_)
  have hz := szOk h0 hsz hR hS hz
  have hP := preOk (av := As) hSd hR hS hz
  exact V_back C hl hS h0 h1 (va_runSN (host := "ButtonTin") (nL := M.2.2.1) ⟨hx, hb, hml, hown, hts⟩ (hC l) ⟨va_cnB k hts (wsM_good hce.1) rfl rfl rfl (hSd.2.1 _ hlk) (hts _ hce.1.2.1) hce.1.2.2.1 (roomOk hroom.1 hroom.2.1 hdd hce.1.2.2.2), hts _ hce.2, trivial⟩ hP rfl hAs hl.1.1 rfl (lv_room hsum) hd (spOk h0 h1 h2 hroom.2.2.1 hroom.2.2.2)) K
theorem V_callIN {Γ : GE} {d n0 nE : Nat} {M : MD} {Q : Option Value → HP → Prop} {pc : Nat} {ls st : List Value} {n : Nat} {G : HP} {idx k nC dc b : Nat} {My : MD} {As : List Value} {Qc : Option Value → HP → Prop} (hd : decode M.2.1 pc = .ok (.invokespecial idx, 3)) (hlk : (M.1.cls, idx, My.1, "ButtonTin") ∈ nstM) (hce : CeI My k) (hAs : As.length = k) (h0 : n0 ≤ n) (h1 : n ≤ nC) (h2 : nC ≤ nE) (hdd : dc + 1 ≤ d) (hsum : (st.map fun v => v.category).sum ≤ 8) (hC : CV Γ dc n nC My (.ref b :: As) G Qc) (K : ∀ (v : Option Value) (G' : HP), Qc v G' → V Γ d n0 nE M Q (pc + 3) ls (v.toList ++ st) nC G') : V Γ d n0 nE M Q pc ls (As.reverse ++ .ref b :: st) n G := by
  intro p l e R s m args below meth c Fin C H locs lsA hl hR hS
  obtain ⟨hx, hb, hml, hown, hts, ⟨hSd, hsz⟩, hroom, hnme, hr1, hr2⟩ := id C
  refine W.szI (fun hz => ?_)
  have hz := szOk h0 hsz hR hS hz
  have hP := preOk (av := .ref b :: As) hSd hR hS hz
  have hin9 := hce.2.2.2
  exact V_back C hl hS h0 h1 (va_runIN (host := "ButtonTin") (bytes := My.2.1) (maxL := My.2.2.1) (nL := M.2.2.1) ⟨hx, hb, hml, hown, hts⟩ (hC l) ⟨hin9 ▸ va_cnB k hts (wsM_good hce.1) rfl rfl rfl (hSd.2.1 _ hlk) (hts _ hce.1.2.1) hce.1.2.2.1 (roomOk hroom.1 hroom.2.1 hdd hce.1.2.2.2), hce.2.2.1, hts _ hce.2.1⟩ hP rfl hAs hl.1.1 rfl (lv_room hsum) hd (spOk h0 h1 h2 hroom.2.2.1 hroom.2.2.2)) K
