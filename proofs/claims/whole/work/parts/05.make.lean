def nH (G : HP) (k : Nat) (g : Nat → Value) : HP := fun a => if a = k then g else G a
theorem nH_ne {G : HP} {k a : Nat} {g : Nat → Value} (h : a ≠ k) : nH G k g a = G a := if_neg h
theorem nH_k {G : HP} {k : Nat} {g : Nat → Value} : nH G k g k = g := if_pos rfl
/-- the world with one cell more -/
theorem Rl_push {Γ : GE} {n : Nat} {G : HP} {g : Nat → Value} {H H1 : Heap} (hR : Rl Γ n G H) (hz : H.size = gB Γ + n) (o1 : ∀ q : Nat, q < H.size → H1[q]? = H[q]?) (h : va_at (gD Γ) vwCl (gB Γ + n, ent Γ (lay n) g) H1) : Rl Γ (n + 1) (nH G n g) H1 := by
  unfold Rl
  rw [wsG_push (G := G) (fun j hj => nH_ne hj), nH_k]
  refine (va_P.kept hR (fun k x hx => o1 x.1 ((hR k x hx).lt))).app (fun k x hx => ?_)
  have hk : k < 1 := (List.getElem?_eq_some_iff.mp hx).1
  rw [show k = 0 by omega] at hx
  cases hx
  exact h
theorem va_S.pushed {A : Nat → Prop} {H0 H H1 : Heap} {locs : List Loc} (hS : va_S A H0 H locs) (z1 : H.size ≤ H1.size) (o1 : ∀ q : Nat, q < H.size → H1[q]? = H[q]?) : va_S A H0 H1 locs := ⟨Nat.le_trans hS.1 z1, fun x h1 h2 => (o1 x (Nat.lt_of_lt_of_le h1 hS.1)).trans (hS.2.1 x h1 h2), hS.2.2⟩
def CN (own : String) (idx ci N : Nat) (g : Nat → Value) : Prop := ∃ (C : String) (T : u_T) (tyf : Nat → FieldType), vwCl[ci]? = some (C, T, N) ∧ ci < 20 ∧ (∀ w ∈ u_ws C T N, w ∈ gw) ∧ (∀ k, k < N → parseFieldDescriptor (T k).2.2.1 = some (tyf k)) ∧ Cond.classLink own idx C ∈ gw ∧ Cond.instantiable C N ∈ gw ∧ Cond.initialized C ∈ gw ∧ ∀ j, j < N → defaultValue (tyf j) = g j
theorem V_new {Γ : GE} {d n0 nE : Nat} {M : MD} {Q : Option Value → HP → Prop} {pc : Nat} {ls st : List Value} {n : Nat} {G : HP} {idx ci N : Nat} {g : Nat → Value} (hd : decode M.2.1 pc = .ok (.new idx, 3)) (hcn : CN M.1.cls idx ci N g) (hlay : lay n = (ci, N)) (h0 : n0 ≤ n) (hE : n + 1 ≤ nE) (K : V Γ d n0 nE M Q (pc + 3) ls (.ref (gB Γ + n) :: st) (n + 1) (nH G n g)) : V Γ d n0 nE M Q pc ls st n G := by
  intro p l e R s m args below meth c Fin C H locs lsA hl hR hS
  obtain ⟨hx, hb, hml, hown, hts, ⟨hSd, hsz⟩, hroom, hnme, hr1, hr2⟩ := id C
  refine W.szI (fun hz => ?_)
  have hz := szOk h0 hsz hR hS hz
  obtain ⟨C0, T, tyf, hc, hci, hin, hty, hcl, hins, hini, hdef⟩ := hcn
  have hKn := hSd.1.1 ci _ hc
  have hsp := spOk (R := R) (nC := n + 1) h0 (by omega) hE hroom.2.2.1 hroom.2.2.2
  have et : tot (n + 1) = tot n + N := by show tot n + (lay n).2 = _; rw [hlay]
  have ec : n - n0 + 1 = n + 1 - n0 := by omega
  have es : tot n - tot n0 + N = tot (n + 1) - tot n0 := by
    have := tot_mono h0
    omega
  refine W.newcK hx hb hown (hts _ hcl) (hts _ hins) (hts _ hini) rfl hd (by omega) (by omega) hKn.2.1 hz (fun H1 kC hkC e1 z1 o1 => ?_)
  rw [ec, es]
  refine K p l e R s m args below meth c Fin C H1 locs lsA hl (Rl_push hR hz (fun q hq => o1 q (by omega)) ?_) (hS.pushed (by omega) (fun q hq => o1 q (by omega)))
  rw [hlay, ent_obj hci]
  refine ⟨_, hc, (u_born tyf hts hin hKn hkC e1 hty).to (fun j hj => ?_)⟩
  rw [hdef j hj]
  simp [vp_V, hj]
theorem V_newaI {Γ : GE} {d n0 nE : Nat} {M : MD} {Q : Option Value → HP → Prop} {pc : Nat} {ls st : List Value} {n : Nat} {G : HP} {N : Nat} (hd : decode M.2.1 pc = .ok (.newarray .int, 2)) (hw : Cond.arrayClass .int ∈ gw) (hlay : lay n = (20, N)) (hN : N < 100000) (h0 : n0 ≤ n) (hE : n + 1 ≤ nE) (K : V Γ d n0 nE M Q (pc + 2) ls (.ref (gB Γ + n) :: st) (n + 1) (nH G n (fun _ => vI 0))) : V Γ d n0 nE M Q pc ls (vI (N : Int) :: st) n G := by
  intro p l e R s m args below meth c Fin C H locs lsA hl hR hS
  obtain ⟨hx, hb, hml, hown, hts, ⟨hSd, hsz⟩, hroom, hnme, hr1, hr2⟩ := id C
  refine W.szI (fun hz => ?_)
  have hz := szOk h0 hsz hR hS hz
  have hsp := spOk (R := R) (nC := n + 1) h0 (by omega) hE hroom.2.2.1 hroom.2.2.2
  have et : tot (n + 1) = tot n + N := by show tot n + (lay n).2 = _; rw [hlay]
  have ec : n - n0 + 1 = n + 1 - n0 := by omega
  have es : tot n - tot n0 + N = tot (n + 1) - tot n0 := by
    have := tot_mono h0
    omega
  have hr : Rg (N : Int) := ⟨by omega, by omega⟩
  refine va_newaK (atype := .int) hx hb (hts _ hw) rfl hd rfl (n := Int32.ofInt N) (N := N) (by rw [Int32.lt_iff_toInt_lt, hr.toInt]; show ¬ (N : Int) < 0; omega) (by rw [← Int32.toNat_toInt, hr.toInt]; rfl) (by show N * _ ≤ _; first | (show N * 4 ≤ _; omega) | (show N * 1 ≤ _; omega)) (by omega) (by omega) hz (fun H1 cA e1 z1 o1 hAr hNm => ?_)
  rw [ec, es]
  have hcA : cA = gC Γ 0 := by
    have := (hSd.1.2 0 _ rfl).2
    exact Option.some.inj (hNm.symm.trans this)
  subst hcA
  refine K p l e R s m args below meth c Fin C H1 locs lsA hl (Rl_push hR hz (fun q hq => o1 q (by omega)) ?_) (hS.pushed (by omega) (fun q hq => o1 q (by omega)))
  rw [hlay, ent_int]
  exact e1
theorem V_newaZ {Γ : GE} {d n0 nE : Nat} {M : MD} {Q : Option Value → HP → Prop} {pc : Nat} {ls st : List Value} {n : Nat} {G : HP} {N : Nat} (hd : decode M.2.1 pc = .ok (.newarray .boolean, 2)) (hw : Cond.arrayClass .boolean ∈ gw) (hlay : lay n = (21, N)) (hN : N < 100000) (h0 : n0 ≤ n) (hE : n + 1 ≤ nE) (K : V Γ d n0 nE M Q (pc + 2) ls (.ref (gB Γ + n) :: st) (n + 1) (nH G n (fun _ => vI 0))) : V Γ d n0 nE M Q pc ls (vI (N : Int) :: st) n G := by
  intro p l e R s m args below meth c Fin C H locs lsA hl hR hS
  obtain ⟨hx, hb, hml, hown, hts, ⟨hSd, hsz⟩, hroom, hnme, hr1, hr2⟩ := id C
  refine W.szI (fun hz => ?_)
  have hz := szOk h0 hsz hR hS hz
  have hsp := spOk (R := R) (nC := n + 1) h0 (by omega) hE hroom.2.2.1 hroom.2.2.2
  have et : tot (n + 1) = tot n + N := by show tot n + (lay n).2 = _; rw [hlay]
  have ec : n - n0 + 1 = n + 1 - n0 := by omega
  have es : tot n - tot n0 + N = tot (n + 1) - tot n0 := by
    have := tot_mono h0
    omega
  have hr : Rg (N : Int) := ⟨by omega, by omega⟩
  refine va_newaK (atype := .boolean) hx hb (hts _ hw) rfl hd rfl (n := Int32.ofInt N) (N := N) (by rw [Int32.lt_iff_toInt_lt, hr.toInt]; show ¬ (N : Int) < 0; omega) (by rw [← Int32.toNat_toInt, hr.toInt]; rfl) (by show N * _ ≤ _; first | (show N * 4 ≤ _; omega) | (show N * 1 ≤ _; omega)) (by omega) (by omega) hz (fun H1 cA e1 z1 o1 hAr hNm => ?_)
  rw [ec, es]
  have hcA : cA = gC Γ 1 := by
    have := (hSd.1.2 1 _ rfl).2
    exact Option.some.inj (hNm.symm.trans this)
  subst hcA
  refine K p l e R s m args below meth c Fin C H1 locs lsA hl (Rl_push hR hz (fun q hq => o1 q (by omega)) ?_) (hS.pushed (by omega) (fun q hq => o1 q (by omega)))
  rw [hlay, ent_boo]
  exact e1
theorem V_newaB {Γ : GE} {d n0 nE : Nat} {M : MD} {Q : Option Value → HP → Prop} {pc : Nat} {ls st : List Value} {n : Nat} {G : HP} {N : Nat} (hd : decode M.2.1 pc = .ok (.newarray .byte, 2)) (hw : Cond.arrayClass .byte ∈ gw) (hlay : lay n = (22, N)) (hN : N < 100000) (h0 : n0 ≤ n) (hE : n + 1 ≤ nE) (K : V Γ d n0 nE M Q (pc + 2) ls (.ref (gB Γ + n) :: st) (n + 1) (nH G n (fun _ => vI 0))) : V Γ d n0 nE M Q pc ls (vI (N : Int) :: st) n G := by
  intro p l e R s m args below meth c Fin C H locs lsA hl hR hS
  obtain ⟨hx, hb, hml, hown, hts, ⟨hSd, hsz⟩, hroom, hnme, hr1, hr2⟩ := id C
  refine W.szI (fun hz => ?_)
  have hz := szOk h0 hsz hR hS hz
  have hsp := spOk (R := R) (nC := n + 1) h0 (by omega) hE hroom.2.2.1 hroom.2.2.2
  have et : tot (n + 1) = tot n + N := by show tot n + (lay n).2 = _; rw [hlay]
  have ec : n - n0 + 1 = n + 1 - n0 := by omega
  have es : tot n - tot n0 + N = tot (n + 1) - tot n0 := by
    have := tot_mono h0
    omega
  have hr : Rg (N : Int) := ⟨by omega, by omega⟩
  refine va_newaK (atype := .byte) hx hb (hts _ hw) rfl hd rfl (n := Int32.ofInt N) (N := N) (by rw [Int32.lt_iff_toInt_lt, hr.toInt]; show ¬ (N : Int) < 0; omega) (by rw [← Int32.toNat_toInt, hr.toInt]; rfl) (by show N * _ ≤ _; first | (show N * 4 ≤ _; omega) | (show N * 1 ≤ _; omega)) (by omega) (by omega) hz (fun H1 cA e1 z1 o1 hAr hNm => ?_)
  rw [ec, es]
  have hcA : cA = gC Γ 2 := by
    have := (hSd.1.2 2 _ rfl).2
    exact Option.some.inj (hNm.symm.trans this)
  subst hcA
  refine K p l e R s m args below meth c Fin C H1 locs lsA hl (Rl_push hR hz (fun q hq => o1 q (by omega)) ?_) (hS.pushed (by omega) (fun q hq => o1 q (by omega)))
  rw [hlay, ent_byt]
  exact e1
theorem V_anew3 {Γ : GE} {d n0 nE : Nat} {M : MD} {Q : Option Value → HP → Prop} {pc : Nat} {ls st : List Value} {n : Nat} {G : HP} {idx N : Nat} (hd : decode M.2.1 pc = .ok (.anewarray idx, 3)) (hw : Cond.classLink M.1.cls idx "ButtonTin$Cloth" ∈ gw) (hlay : lay n = (23, N)) (hN : N < 100000) (h0 : n0 ≤ n) (hE : n + 1 ≤ nE) (K : V Γ d n0 nE M Q (pc + 3) ls (.ref (gB Γ + n) :: st) (n + 1) (nH G n (fun _ => .null))) : V Γ d n0 nE M Q pc ls (vI (N : Int) :: st) n G := by
  intro p l e R s m args below meth c Fin C H locs lsA hl hR hS
  obtain ⟨hx, hb, hml, hown, hts, ⟨hSd, hsz⟩, hroom, hnme, hr1, hr2⟩ := id C
  refine W.szI (fun hz => ?_)
  have hz := szOk h0 hsz hR hS hz
  have hsp := spOk (R := R) (nC := n + 1) h0 (by omega) hE hroom.2.2.1 hroom.2.2.2
  have et : tot (n + 1) = tot n + N := by show tot n + (lay n).2 = _; rw [hlay]
  have ec : n - n0 + 1 = n + 1 - n0 := by omega
  have es : tot n - tot n0 + N = tot (n + 1) - tot n0 := by
    have := tot_mono h0
    omega
  have hr : Rg (N : Int) := ⟨by omega, by omega⟩
  have hnn : (Int32.ofInt (N : Int)).toNatClampNeg = N := by rw [← Int32.toNat_toInt, hr.toInt]; rfl
  refine W.anew hx hb hown (hts _ hw) (va_AO.use hSd.2.2.2.1.1) rfl hd rfl (n := Int32.ofInt N) (by rw [Int32.lt_iff_toInt_lt, hr.toInt]; show ¬ (N : Int) < 0; omega) (by rw [hnn]; omega) (by omega) (by rw [hnn]; omega) (fun cA kA comp f1 f2 f3 f4 => ?_)
  rw [hnn, ec, es, hz]
  have hcA : cA = gC Γ 3 := by
    obtain ⟨_, _, _, _, _, q⟩ := (hSd.1.2 3 _ rfl).2
    exact Option.some.inj (f1.symm.trans q)
  subst hcA
  generalize hH1 : H.push ({ cls := gC Γ 3, slots := Array.replicate N .null, vm := .none } : Cell) = H1
  have z1 : H1.size = H.size + 1 := by rw [← hH1, Array.size_push]
  have e1 : H1[H.size]? = some (arrV (gC Γ 3) N (fun _ => .null)) := by rw [← hH1, Array.getElem?_push_size, ← arrV_new]
  have o1 : ∀ q : Nat, q < H.size → H1[q]? = H[q]? := fun q hq => by rw [← hH1, Array.getElem?_push, if_neg (Nat.ne_of_lt hq)]
  refine K p l e R s m args below meth c Fin C H1 locs lsA hl (Rl_push hR hz o1 ?_) (hS.pushed (by omega) o1)
  rw [hlay, ent_clo]
  rw [hz] at e1
  exact e1
theorem V_aast3 {Γ : GE} {d n0 nE : Nat} {M : MD} {Q : Option Value → HP → Prop} {pc : Nat} {ls st : List Value} {n : Nat} {G : HP} {k kv N : Nat} {i : Int} (hd : decode M.2.1 pc = .ok (.aastore, 1)) (hlay : lay k = (23, N)) (hk : k < n) (hN : N < 2147483648) (h0 : 0 ≤ i) (h1 : i < N) (hlv : lay kv = (2, 4)) (hkv : kv < n) (K : V Γ d n0 nE M Q (pc + 1) ls st n (uH G k i.toNat (.ref (gB Γ + kv)))) : V Γ d n0 nE M Q pc ls (.ref (gB Γ + kv) :: vI i :: .ref (gB Γ + k) :: st) n G := by
  intro p l e R s m args below meth c Fin C H locs lsA hl hR hS
  obtain ⟨hx, hb, hml, hown, hts, ⟨hSd, hsz⟩, hroom, hnme, hr1, hr2⟩ := id C
  have hat := wsG_at (Γ := Γ) (G := G) hk
  rw [hlay, ent_clo] at hat
  have hav := wsG_at (Γ := Γ) (G := G) hkv
  rw [hlv, ent_obj (by decide)] at hav
  obtain ⟨g1, g2⟩ := vpI h0 h1 hN
  refine va_astq hx hb hSd.1 hR wsG_D hS k 3 kv 2 hat (r := (RX2, TX2, 4)) rfl hav rfl g1 hd (fun H1 locs1 hP1 hD1 hS1 => ?_)
  have e2 := wsG_set (Γ := Γ) (G := G) (G2 := uH G k i.toNat (.ref (gB Γ + kv))) hk (fun a ha => uH_ne ha)
  rw [hlay, ent_clo, uH_k] at e2
  rw [g2] at hP1
  have e3 : (fun j => rfo ((fun b => if b = i.toNat then Value.ref (gB Γ + kv) else G k b) j)) = va_up (fun j => rfo (G k j)) i.toNat (some (gB Γ + kv)) := by
    funext j
    by_cases hj : j = i.toNat
    · simp [hj, va_up, rfo]
    · simp [hj, va_up]
  rw [e3] at e2
  rw [e2] at hP1
  exact K p l e R s m args below meth c Fin C H1 locs1 lsA hl hP1 hS1
theorem V_anew4 {Γ : GE} {d n0 nE : Nat} {M : MD} {Q : Option Value → HP → Prop} {pc : Nat} {ls st : List Value} {n : Nat} {G : HP} {idx N : Nat} (hd : decode M.2.1 pc = .ok (.anewarray idx, 3)) (hw : Cond.classLink M.1.cls idx "ButtonTin$Image" ∈ gw) (hlay : lay n = (24, N)) (hN : N < 100000) (h0 : n0 ≤ n) (hE : n + 1 ≤ nE) (K : V Γ d n0 nE M Q (pc + 3) ls (.ref (gB Γ + n) :: st) (n + 1) (nH G n (fun _ => .null))) : V Γ d n0 nE M Q pc ls (vI (N : Int) :: st) n G := by
  intro p l e R s m args below meth c Fin C H locs lsA hl hR hS
  obtain ⟨hx, hb, hml, hown, hts, ⟨hSd, hsz⟩, hroom, hnme, hr1, hr2⟩ := id C
  refine W.szI (fun hz => ?_)
  have hz := szOk h0 hsz hR hS hz
  have hsp := spOk (R := R) (nC := n + 1) h0 (by omega) hE hroom.2.2.1 hroom.2.2.2
  have et : tot (n + 1) = tot n + N := by show tot n + (lay n).2 = _; rw [hlay]
  have ec : n - n0 + 1 = n + 1 - n0 := by omega
  have es : tot n - tot n0 + N = tot (n + 1) - tot n0 := by
    have := tot_mono h0
    omega
  have hr : Rg (N : Int) := ⟨by omega, by omega⟩
  have hnn : (Int32.ofInt (N : Int)).toNatClampNeg = N := by rw [← Int32.toNat_toInt, hr.toInt]; rfl
  refine W.anew hx hb hown (hts _ hw) (va_AO.use hSd.2.2.2.1.2) rfl hd rfl (n := Int32.ofInt N) (by rw [Int32.lt_iff_toInt_lt, hr.toInt]; show ¬ (N : Int) < 0; omega) (by rw [hnn]; omega) (by omega) (by rw [hnn]; omega) (fun cA kA comp f1 f2 f3 f4 => ?_)
  rw [hnn, ec, es, hz]
  have hcA : cA = gC Γ 4 := by
    obtain ⟨_, _, _, _, _, q⟩ := (hSd.1.2 4 _ rfl).2
    exact Option.some.inj (f1.symm.trans q)
  subst hcA
  generalize hH1 : H.push ({ cls := gC Γ 4, slots := Array.replicate N .null, vm := .none } : Cell) = H1
  have z1 : H1.size = H.size + 1 := by rw [← hH1, Array.size_push]
  have e1 : H1[H.size]? = some (arrV (gC Γ 4) N (fun _ => .null)) := by rw [← hH1, Array.getElem?_push_size, ← arrV_new]
  have o1 : ∀ q : Nat, q < H.size → H1[q]? = H[q]? := fun q hq => by rw [← hH1, Array.getElem?_push, if_neg (Nat.ne_of_lt hq)]
  refine K p l e R s m args below meth c Fin C H1 locs lsA hl (Rl_push hR hz o1 ?_) (hS.pushed (by omega) o1)
  rw [hlay, ent_img]
  rw [hz] at e1
  exact e1
theorem V_aast4 {Γ : GE} {d n0 nE : Nat} {M : MD} {Q : Option Value → HP → Prop} {pc : Nat} {ls st : List Value} {n : Nat} {G : HP} {k kv N : Nat} {i : Int} (hd : decode M.2.1 pc = .ok (.aastore, 1)) (hlay : lay k = (24, N)) (hk : k < n) (hN : N < 2147483648) (h0 : 0 ≤ i) (h1 : i < N) (hlv : lay kv = (5, 3)) (hkv : kv < n) (K : V Γ d n0 nE M Q (pc + 1) ls st n (uH G k i.toNat (.ref (gB Γ + kv)))) : V Γ d n0 nE M Q pc ls (.ref (gB Γ + kv) :: vI i :: .ref (gB Γ + k) :: st) n G := by
  intro p l e R s m args below meth c Fin C H locs lsA hl hR hS
  obtain ⟨hx, hb, hml, hown, hts, ⟨hSd, hsz⟩, hroom, hnme, hr1, hr2⟩ := id C
  have hat := wsG_at (Γ := Γ) (G := G) hk
  rw [hlay, ent_img] at hat
  have hav := wsG_at (Γ := Γ) (G := G) hkv
  rw [hlv, ent_obj (by decide)] at hav
  obtain ⟨g1, g2⟩ := vpI h0 h1 hN
  refine va_astq hx hb hSd.1 hR wsG_D hS k 4 kv 5 hat (r := (RX5, TX5, 3)) rfl hav rfl g1 hd (fun H1 locs1 hP1 hD1 hS1 => ?_)
  have e2 := wsG_set (Γ := Γ) (G := G) (G2 := uH G k i.toNat (.ref (gB Γ + kv))) hk (fun a ha => uH_ne ha)
  rw [hlay, ent_img, uH_k] at e2
  rw [g2] at hP1
  have e3 : (fun j => rfo ((fun b => if b = i.toNat then Value.ref (gB Γ + kv) else G k b) j)) = va_up (fun j => rfo (G k j)) i.toNat (some (gB Γ + kv)) := by
    funext j
    by_cases hj : j = i.toNat
    · simp [hj, va_up, rfo]
    · simp [hj, va_up]
  rw [e3] at e2
  rw [e2] at hP1
  exact K p l e R s m args below meth c Fin C H1 locs1 lsA hl hP1 hS1
theorem V_objInit {Γ : GE} {d n0 nE : Nat} {M : MD} {Q : Option Value → HP → Prop} {pc : Nat} {ls st : List Value} {n : Nat} {G : HP} {idx a : Nat} (hd : decode M.2.1 pc = .ok (.invokespecial idx, 3)) (hw : Cond.methodLink M.1.cls idx Lib.objectInit ∈ gw) (hw2 : Cond.instanceMethod Lib.objectInit ∈ gw) (hw3 : Cond.code Lib.objectInit ⟨#[0xb1]⟩ 1 none ∈ gw) (hdd : 1 ≤ d) (hsum : (st.map fun v => v.category).sum ≤ 8) (K : V Γ d n0 nE M Q (pc + 3) ls st n G) : V Γ d n0 nE M Q pc ls (.ref a :: st) n G := by
  intro p l e R s m args below meth c Fin C H locs lsA hl hR hS
  obtain ⟨hx, hb, hml, hown, hts, ⟨hSd, hsz⟩, hroom, hnme, hr1, hr2⟩ := id C
  exact W.objInit hx hb hown (hts _ hw) (hts _ hw2) (hts _ hw3) rfl (hl.1.1.trans hml.symm) rfl hd (by omega) (by have := lv_room (m := m) (pc := pc) (ls := lsA) (rest := (.ref a :: st)) hsum; omega) (K p l e R s m args below meth c Fin C H locs lsA hl hR hS)
theorem V_copy {Γ : GE} {d n0 nE : Nat} {M : MD} {Q : Option Value → HP → Prop} {pc : Nat} {ls st : List Value} {n : Nat} {G : HP} {idx k0 k1 N m9 : Nat} (hd : decode M.2.1 pc = .ok (.invokestatic idx, 3)) (hw : Cond.methodLink M.1.cls idx arraycopyName ∈ gw) (hw2 : Cond.native arraycopyName ∈ gw) (hw3 : Cond.static arraycopyName ∈ gw) (hw4 : Cond.initialized "java/lang/System" ∈ gw) (hlay0 : lay k0 = (20, N)) (hlay1 : lay k1 = (20, N)) (hk0 : k0 < n) (hk1 : k1 < n) (hm : m9 ≤ N) (hN : N < 2147483648) (hdd : 1 ≤ d) (hsum : (st.map fun v => v.category).sum ≤ 8) (K : V Γ d n0 nE M Q (pc + 3) ls st n (nH G k1 (fun j => if j < m9 then G k0 j else G k1 j))) : V Γ d n0 nE M Q pc ls (vI (m9 : Int) :: vI 0 :: .ref (gB Γ + k1) :: vI 0 :: .ref (gB Γ + k0) :: st) n G := by
  intro p l e R s m args below meth c Fin C H locs lsA hl hR hS
  obtain ⟨hx, hb, hml, hown, hts, ⟨hSd, hsz⟩, hroom, hnme, hr1, hr2⟩ := id C
  have hat0 := wsG_at (Γ := Γ) (G := G) hk0
  rw [hlay0, ent_int] at hat0
  have hat1 := wsG_at (Γ := Γ) (G := G) hk1
  rw [hlay1, ent_int] at hat1
  have hr : Rg (m9 : Int) := ⟨by omega, by omega⟩
  have hnn : (Int32.ofInt (m9 : Int)).toNatClampNeg = m9 := by rw [← Int32.toNat_toInt, hr.toInt]; rfl
  have hz0 : (Int32.ofInt 0).toNatClampNeg = 0 := rfl
  refine va_copyi hx hb (hml.trans hl.1.1.symm) hown (hts _ hw) (hts _ hw2) (hts _ hw3) (hts _ hw4) hSd.1 hR wsG_D hS k0 k1 0 0 hat0 hat1 (ty := .int) rfl rfl rfl (sp := Int32.ofInt 0) (dp := Int32.ofInt 0) (n := Int32.ofInt m9) (by decide) (by decide) (by rw [Int32.lt_iff_toInt_lt, hr.toInt]; show ¬ (m9 : Int) < 0; omega) (by rw [hnn, hz0]; omega) (by rw [hnn, hz0]; omega) (fun i hi => rfl) (by omega) (by have e9 : nativeFrameWords "java/lang/System" "arraycopy" 5 = 7 := rfl; rw [e9]; have := hroom.2.1; omega) hd (fun H1 locs1 hP1 hD1 hS1 => ?_)
  have e2 := wsG_set (Γ := Γ) (G := G) (G2 := nH G k1 (fun j => if j < m9 then G k0 j else G k1 j)) hk1 (fun a ha => nH_ne ha)
  rw [hlay1, ent_int, nH_k] at e2
  rw [hnn, hz0] at hP1
  have e3 : (fun j => i32 ((fun j => if j < m9 then G k0 j else G k1 j) j)) = va_cpy (fun j => i32 (G k0 j)) (fun j => i32 (G k1 j)) 0 0 m9 := by
    funext j
    by_cases hj : j < m9
    · rw [pk_cpy_in (by omega) (by omega)]; simp [hj]
    · rw [pk_cpy_out (by omega)]; simp [hj]
  rw [e3] at e2
  rw [e2] at hP1
  exact K p l e R s m args below meth c Fin C H1 locs1 lsA hl hP1 hS1
theorem V_ldcS {Γ : GE} {d n0 nE : Nat} {M : MD} {Q : Option Value → HP → Prop} {pc : Nat} {ls st : List Value} {n : Nat} {G : HP} (hd : decode M.2.1 pc = .ok (.ldc 35, 2)) (hc : M.1.cls = "ButtonTin$Reader") (K : V Γ d n0 nE M Q (pc + 2) ls (.ref (gS Γ 6) :: st) n G) : V Γ d n0 nE M Q pc ls st n G := by
  intro p l e R s m args below meth c Fin C H locs lsA hl hR hS
  obtain ⟨hx, hb, hml, hown, hts, ⟨hSd, hsz⟩, hroom, hnme, hr1, hr2⟩ := id C
  exact va_ldcS hx hb hown (by rw [hc]; exact hSd.2.2.2.2.2.2.2.2.1) hd (K p l e R s m args below meth c Fin C H locs lsA hl hR hS)
theorem V_strv {Γ : GE} {d n0 nE : Nat} {M : MD} {Q : Option Value → HP → Prop} {pc : Nat} {ls st : List Value} {n : Nat} {G : HP} {idx : Nat} (hd : decode M.2.1 pc = .ok (.getfield idx, 3)) (hw : Cond.fieldLink M.1.cls idx "java/lang/String" "value" "[B" ∈ gw) (K : V Γ d n0 nE M Q (pc + 3) ls (.ref (gS Γ 7) :: st) n G) : V Γ d n0 nE M Q pc ls (.ref (gS Γ 6) :: st) n G := by
  intro p l e R s m args below meth c Fin C H locs lsA hl hR hS
  obtain ⟨hx, hb, hml, hown, hts, ⟨hSd, hsz⟩, hroom, hnme, hr1, hr2⟩ := id C
  exact vk_getf hx hb (hSd.2.2.2.2.2.2.2.2.2.1 0 (by decide)).2.2.1 hS hown (hts _ hw) (fun x h => h) hd (K p l e R s m args below meth c Fin C H locs lsA hl hR hS)
theorem V_strc {Γ : GE} {d n0 nE : Nat} {M : MD} {Q : Option Value → HP → Prop} {pc : Nat} {ls st : List Value} {n : Nat} {G : HP} {idx : Nat} (hd : decode M.2.1 pc = .ok (.getfield idx, 3)) (hw : Cond.fieldLink M.1.cls idx "java/lang/String" "coder" "B" ∈ gw) (K : V Γ d n0 nE M Q (pc + 3) ls (vI 0 :: st) n G) : V Γ d n0 nE M Q pc ls (.ref (gS Γ 6) :: st) n G := by
  intro p l e R s m args below meth c Fin C H locs lsA hl hR hS
  obtain ⟨hx, hb, hml, hown, hts, ⟨hSd, hsz⟩, hroom, hnme, hr1, hr2⟩ := id C
  exact vk_getf hx hb (hSd.2.2.2.2.2.2.2.2.2.1 0 (by decide)).2.1 hS hown (hts _ hw) (fun x h => h) hd (K p l e R s m args below meth c Fin C H locs lsA hl hR hS)
def strB (j : Nat) : Int := ([116, 98, 114, 117, 110] : List Int).getD j 0
theorem V_strb {Γ : GE} {d n0 nE : Nat} {M : MD} {Q : Option Value → HP → Prop} {pc : Nat} {ls st : List Value} {n : Nat} {G : HP} {i : Int} (hd : decode M.2.1 pc = .ok (.baload, 1)) (h0 : 0 ≤ i) (h1 : i < 5) (K : V Γ d n0 nE M Q (pc + 1) ls (vI (strB i.toNat) :: st) n G) : V Γ d n0 nE M Q pc ls (vI i :: .ref (gS Γ 7) :: st) n G := by
  intro p l e R s m args below meth c Fin C H locs lsA hl hR hS
  obtain ⟨hx, hb, hml, hown, hts, ⟨hSd, hsz⟩, hroom, hnme, hr1, hr2⟩ := id C
  have hT := (hSd.2.2.2.2.2.2.2.2.2.1 0 (by decide)).2.2.2
  obtain ⟨g1, g2⟩ := vpI (N := 5) h0 (by omega) (by decide)
  refine va_tb hx hb hT hS g1 (v := vI (strB i.toNat)) ?_ hd (K p l e R s m args below meth c Fin C H locs lsA hl hR hS)
  rw [g2]
  have : ∀ j, j < 5 → Value.int ((([[116, 98, 114, 117, 110]] : List (List Int32)).getD 0 []).getD j 0) = vI (strB j) := by decide
  exact this i.toNat (by omega)
theorem V_strl {Γ : GE} {d n0 nE : Nat} {M : MD} {Q : Option Value → HP → Prop} {pc : Nat} {ls st : List Value} {n : Nat} {G : HP} (hd : decode M.2.1 pc = .ok (.arraylength, 1)) (K : V Γ d n0 nE M Q (pc + 1) ls (vI 5 :: st) n G) : V Γ d n0 nE M Q pc ls (.ref (gS Γ 7) :: st) n G := by
  intro p l e R s m args below meth c Fin C H locs lsA hl hR hS
  obtain ⟨hx, hb, hml, hown, hts, ⟨hSd, hsz⟩, hroom, hnme, hr1, hr2⟩ := id C
  obtain ⟨cell, h1, h2, h3, h4, h5, h6, h7⟩ := (hSd.2.2.2.2.2.2.2.2.2.1 0 (by decide)).2.2.2
  exact W.alen (n := 5) hx hb (by rw [hS.2.1 _ (Array.getElem?_eq_some_iff.mp h1).1 h7]; exact h1) h2 (by rw [h5]; rfl) rfl rfl hd (K p l e R s m args below meth c Fin C H locs lsA hl hR hS)
theorem V_getZ {Γ : GE} {d n0 nE : Nat} {M : MD} {Q : Option Value → HP → Prop} {pc : Nat} {ls st : List Value} {n : Nat} {G : HP} {idx : Nat} (hd : decode M.2.1 pc = .ok (.getstatic idx, 3)) (hw : Cond.fieldLink M.1.cls idx "java/lang/String" "COMPACT_STRINGS" "Z" ∈ gw) (K : V Γ d n0 nE M Q (pc + 3) ls (vI 1 :: st) n G) : V Γ d n0 nE M Q pc ls st n G := by
  intro p l e R s m args below meth c Fin C H locs lsA hl hR hS
  obtain ⟨hx, hb, hml, hown, hts, ⟨hSd, hsz⟩, hroom, hnme, hr1, hr2⟩ := id C
  exact va_gets hx hb hSd.2.2.2.2.2.2.2.1 hS hown (hts _ hw) (fun x h => h) hd (K p l e R s m args below meth c Fin C H locs lsA hl hR hS)
