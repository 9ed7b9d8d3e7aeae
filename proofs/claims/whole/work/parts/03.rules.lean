theorem W.szI {p : Program} {l : Launch} {e : Env} {R : Room} {s : State} {m : MethodId} {args : Array Value} {below : List Frame} {meth : Method} {c : Code} {H : Heap} {locs : List Loc} {cells slots : Nat} {Fin : State → Prop} {g : JFrame} (k : H.size ≤ s.heap.size + cells → W p l e R s m args below meth c H locs cells slots Fin g) : W p l e R s m args below meth c H locs cells slots Fin g := fun T hT X => k (by rw [← hT]; exact X.heapSize) T hT X
def vI (z : Int) : Value := .int (Int32.ofInt z)
def Rg (z : Int) : Prop := -2147483648 ≤ z ∧ z < 2147483648
theorem Rg.toInt {z : Int} (h : Rg z) : (Int32.ofInt z).toInt = z := Int32.toInt_ofInt_of_le (by have := h.1; omega) (by have := h.2; omega)
theorem Rg.of (x : Int32) : Rg x.toInt := by
  have h1 := x.le_toInt
  have h2 := x.toInt_lt
  constructor <;> omega
theorem vI_toInt (x : Int32) : vI x.toInt = .int x := by unfold vI; rw [Int32.ofInt_toInt]
theorem Rg.lt {a b : Int} (ha : Rg a) (hb : Rg b) : Int32.ofInt a < Int32.ofInt b ↔ a < b := by rw [Int32.lt_iff_toInt_lt, ha.toInt, hb.toInt]
theorem Rg.le {a b : Int} (ha : Rg a) (hb : Rg b) : Int32.ofInt a ≤ Int32.ofInt b ↔ a ≤ b := by rw [Int32.le_iff_toInt_le, ha.toInt, hb.toInt]
theorem Rg.eq {a b : Int} (ha : Rg a) (hb : Rg b) : Int32.ofInt a = Int32.ofInt b ↔ a = b := by rw [← Int32.toInt_inj, ha.toInt, hb.toInt]
theorem Rg.zero : Rg 0 := by constructor <;> decide
theorem ofI0 : Int32.ofInt 0 = 0 := rfl
def jand (a b : Int) : Int := (Int32.ofInt a &&& Int32.ofInt b).toInt
def jor (a b : Int) : Int := (Int32.ofInt a ||| Int32.ofInt b).toInt
def jxor (a b : Int) : Int := (Int32.ofInt a ^^^ Int32.ofInt b).toInt
def jshl (a b : Int) : Int := (Int32.ofInt a <<< (Int32.ofInt b &&& 31)).toInt
def jshr (a b : Int) : Int := (Int32.ofInt a >>> (Int32.ofInt b &&& 31)).toInt
def jushr (a b : Int) : Int := ((Int32.ofInt a).toUInt32 >>> ((Int32.ofInt b).toUInt32 &&& Int32.toUInt32 31)).toInt32.toInt
def ji2b (a : Int) : Int := (Int32.ofInt a).toInt8.toInt32.toInt
def ji2c (a : Int) : Int := ((Int32.ofInt a).toUInt32 % 65536).toInt32.toInt
def ji2l (a : Int) : Int64 := (Int32.ofInt a).toInt64
def jl2i (a : Int64) : Int := a.toInt32.toInt
def isI : Value → Bool
  | .int _ => true
  | _ => false
def isL : Value → Bool
  | .long _ => true
  | _ => false
def isR : Value → Bool
  | .ref _ => true
  | _ => false
theorem isI_of {v : Value} (h : isI v = true) : ∃ x, v = .int x := by
  cases v <;> first | exact ⟨_, rfl⟩ | cases h
theorem isL_of {v : Value} (h : isL v = true) : ∃ x, v = .long x := by
  cases v <;> first | exact ⟨_, rfl⟩ | cases h
theorem isR_of {v : Value} (h : isR v = true) : ∃ x, v = .ref x := by
  cases v <;> first | exact ⟨_, rfl⟩ | cases h
theorem vI_inj_toInt {z : Int} : i32 (vI z) = Int32.ofInt z := rfl
theorem V_iconst {Γ : GE} {d n0 nE : Nat} {M : MD} {Q : Option Value → HP → Prop} {pc : Nat} {ls st : List Value} {n : Nat} {G : HP} {z : Int} (hd : decode M.2.1 pc = .ok (.iconst z, 1)) (K : V Γ d n0 nE M Q (pc + 1) ls (vI z :: st) n G) : V Γ d n0 nE M Q pc ls (st) n G := by
  intro p l e R s m args below meth c Fin C H locs lsA hl hR hS
  have k := (K p l e R s m args below meth c Fin C H locs lsA hl hR hS)
  exact lv_iconst C.1 C.2.1 hd rfl k
theorem V_bipush {Γ : GE} {d n0 nE : Nat} {M : MD} {Q : Option Value → HP → Prop} {pc : Nat} {ls st : List Value} {n : Nat} {G : HP} {z : Int} (hd : decode M.2.1 pc = .ok (.bipush z, 2)) (hv : (Int8.ofInt z).toInt32 = Int32.ofInt z) (K : V Γ d n0 nE M Q (pc + 2) ls (vI z :: st) n G) : V Γ d n0 nE M Q pc ls (st) n G := by
  intro p l e R s m args below meth c Fin C H locs lsA hl hR hS
  have k := (K p l e R s m args below meth c Fin C H locs lsA hl hR hS)
  exact lv_bipush C.1 C.2.1 hd hv k
theorem V_sipush {Γ : GE} {d n0 nE : Nat} {M : MD} {Q : Option Value → HP → Prop} {pc : Nat} {ls st : List Value} {n : Nat} {G : HP} {z : Int} (hd : decode M.2.1 pc = .ok (.sipush z, 3)) (hv : (Int16.ofInt z).toInt32 = Int32.ofInt z) (K : V Γ d n0 nE M Q (pc + 3) ls (vI z :: st) n G) : V Γ d n0 nE M Q pc ls (st) n G := by
  intro p l e R s m args below meth c Fin C H locs lsA hl hR hS
  have k := (K p l e R s m args below meth c Fin C H locs lsA hl hR hS)
  exact lv_sipush C.1 C.2.1 hd hv k
theorem V_ldc {Γ : GE} {d n0 nE : Nat} {M : MD} {Q : Option Value → HP → Prop} {pc : Nat} {ls st : List Value} {n : Nat} {G : HP} {idx : Nat} {z : Int} (hd : decode M.2.1 pc = .ok (.ldc idx, 2)) (hw : Cond.constant M.1.cls idx (Int32.ofInt z) ∈ gw) (K : V Γ d n0 nE M Q (pc + 2) ls (vI z :: st) n G) : V Γ d n0 nE M Q pc ls (st) n G := by
  intro p l e R s m args below meth c Fin C H locs lsA hl hR hS
  have k := (K p l e R s m args below meth c Fin C H locs lsA hl hR hS)
  exact lv_ldc C.1 C.2.1 C.2.2.2.1 (C.2.2.2.2.1 _ hw) hd k
theorem V_ldcw {Γ : GE} {d n0 nE : Nat} {M : MD} {Q : Option Value → HP → Prop} {pc : Nat} {ls st : List Value} {n : Nat} {G : HP} {idx : Nat} {z : Int} (hd : decode M.2.1 pc = .ok (.ldc_w idx, 3)) (hw : Cond.constant M.1.cls idx (Int32.ofInt z) ∈ gw) (K : V Γ d n0 nE M Q (pc + 3) ls (vI z :: st) n G) : V Γ d n0 nE M Q pc ls (st) n G := by
  intro p l e R s m args below meth c Fin C H locs lsA hl hR hS
  have k := (K p l e R s m args below meth c Fin C H locs lsA hl hR hS)
  exact lv_ldcw C.1 C.2.1 C.2.2.2.1 (C.2.2.2.2.1 _ hw) hd k
theorem V_ldc2 {Γ : GE} {d n0 nE : Nat} {M : MD} {Q : Option Value → HP → Prop} {pc : Nat} {ls st : List Value} {n : Nat} {G : HP} {idx : Nat} {z : Int64} (hd : decode M.2.1 pc = .ok (.ldc2_w idx, 3)) (hw : Cond.constantLong M.1.cls idx z ∈ gw) (K : V Γ d n0 nE M Q (pc + 3) ls (.long z :: st) n G) : V Γ d n0 nE M Q pc ls (st) n G := by
  intro p l e R s m args below meth c Fin C H locs lsA hl hR hS
  have k := (K p l e R s m args below meth c Fin C H locs lsA hl hR hS)
  exact lv_ldc2 C.1 C.2.1 C.2.2.2.1 (C.2.2.2.2.1 _ hw) hd k
theorem V_iload {Γ : GE} {d n0 nE : Nat} {M : MD} {Q : Option Value → HP → Prop} {pc : Nat} {ls st : List Value} {n : Nat} {G : HP} {k : Nat} {v : Value} (hd : decode M.2.1 pc = .ok (.iload k, 2)) (hg0 : ls[k]? = some v) (hv : isI v = true) (K : V Γ d n0 nE M Q (pc + 2) ls (v :: st) n G) : V Γ d n0 nE M Q pc ls st n G := by
  intro p l e R s m args below meth c Fin C H locs lsA hl hR hS
  have k9 := (K p l e R s m args below meth c Fin C H locs lsA hl hR hS)
  obtain ⟨x, rfl⟩ := isI_of hv
  have hg := hl.get hg0 (by intro h; cases h)
  exact lv_iload C.1 C.2.1 hd hg k9
theorem V_iload_n {Γ : GE} {d n0 nE : Nat} {M : MD} {Q : Option Value → HP → Prop} {pc : Nat} {ls st : List Value} {n : Nat} {G : HP} {q : Fin 4} {v : Value} (hd : decode M.2.1 pc = .ok (.iload_n q, 1)) (hg0 : ls[(q : Nat)]? = some v) (hv : isI v = true) (K : V Γ d n0 nE M Q (pc + 1) ls (v :: st) n G) : V Γ d n0 nE M Q pc ls st n G := by
  intro p l e R s m args below meth c Fin C H locs lsA hl hR hS
  have k9 := (K p l e R s m args below meth c Fin C H locs lsA hl hR hS)
  obtain ⟨x, rfl⟩ := isI_of hv
  have hg := hl.get hg0 (by intro h; cases h)
  exact lv_iload_n C.1 C.2.1 hd rfl hg k9
theorem V_lload {Γ : GE} {d n0 nE : Nat} {M : MD} {Q : Option Value → HP → Prop} {pc : Nat} {ls st : List Value} {n : Nat} {G : HP} {k : Nat} {v : Value} (hd : decode M.2.1 pc = .ok (.lload k, 2)) (hg0 : ls[k]? = some v) (hv : isL v = true) (K : V Γ d n0 nE M Q (pc + 2) ls (v :: st) n G) : V Γ d n0 nE M Q pc ls st n G := by
  intro p l e R s m args below meth c Fin C H locs lsA hl hR hS
  have k9 := (K p l e R s m args below meth c Fin C H locs lsA hl hR hS)
  obtain ⟨x, rfl⟩ := isL_of hv
  have hg := hl.get hg0 (by intro h; cases h)
  exact lv_lload C.1 C.2.1 hd hg k9
theorem V_lload_n {Γ : GE} {d n0 nE : Nat} {M : MD} {Q : Option Value → HP → Prop} {pc : Nat} {ls st : List Value} {n : Nat} {G : HP} {q : Fin 4} {v : Value} (hd : decode M.2.1 pc = .ok (.lload_n q, 1)) (hg0 : ls[(q : Nat)]? = some v) (hv : isL v = true) (K : V Γ d n0 nE M Q (pc + 1) ls (v :: st) n G) : V Γ d n0 nE M Q pc ls st n G := by
  intro p l e R s m args below meth c Fin C H locs lsA hl hR hS
  have k9 := (K p l e R s m args below meth c Fin C H locs lsA hl hR hS)
  obtain ⟨x, rfl⟩ := isL_of hv
  have hg := hl.get hg0 (by intro h; cases h)
  exact lv_lload_n C.1 C.2.1 hd rfl hg k9
theorem V_aload {Γ : GE} {d n0 nE : Nat} {M : MD} {Q : Option Value → HP → Prop} {pc : Nat} {ls st : List Value} {n : Nat} {G : HP} {k : Nat} {v : Value} (hd : decode M.2.1 pc = .ok (.aload k, 2)) (hg0 : ls[k]? = some v) (hv : isR v = true) (K : V Γ d n0 nE M Q (pc + 2) ls (v :: st) n G) : V Γ d n0 nE M Q pc ls st n G := by
  intro p l e R s m args below meth c Fin C H locs lsA hl hR hS
  have k9 := (K p l e R s m args below meth c Fin C H locs lsA hl hR hS)
  obtain ⟨x, rfl⟩ := isR_of hv
  have hg := hl.get hg0 (by intro h; cases h)
  exact lv_aload C.1 C.2.1 hd hg k9
theorem V_aload_n {Γ : GE} {d n0 nE : Nat} {M : MD} {Q : Option Value → HP → Prop} {pc : Nat} {ls st : List Value} {n : Nat} {G : HP} {q : Fin 4} {v : Value} (hd : decode M.2.1 pc = .ok (.aload_n q, 1)) (hg0 : ls[(q : Nat)]? = some v) (hv : isR v = true) (K : V Γ d n0 nE M Q (pc + 1) ls (v :: st) n G) : V Γ d n0 nE M Q pc ls st n G := by
  intro p l e R s m args below meth c Fin C H locs lsA hl hR hS
  have k9 := (K p l e R s m args below meth c Fin C H locs lsA hl hR hS)
  obtain ⟨x, rfl⟩ := isR_of hv
  have hg := hl.get hg0 (by intro h; cases h)
  exact lv_aload_n C.1 C.2.1 hd rfl hg k9
theorem V_istore {Γ : GE} {d n0 nE : Nat} {M : MD} {Q : Option Value → HP → Prop} {pc : Nat} {ls st : List Value} {n : Nat} {G : HP} {k : Nat} {v : Value} (hd : decode M.2.1 pc = .ok (.istore k, 2)) (hk0 : k < ls.length) (hn : nl ls k) (hv : isI v = true) (K : V Γ d n0 nE M Q (pc + 2) (ls.set k v) st n G) : V Γ d n0 nE M Q pc ls (v :: st) n G := by
  intro p l e R s m args below meth c Fin C H locs lsA hl hR hS
  obtain ⟨x, rfl⟩ := isI_of hv
  have hk := hk0
  rw [hl.2] at hk
  exact lv_istore C.1 C.2.1 hd hl.1 hk rfl (fun lsB h => K p l e R s m args below meth c Fin C H locs lsB (Lc.set1 hl.2 hn h) hR hS)
theorem V_istore_n {Γ : GE} {d n0 nE : Nat} {M : MD} {Q : Option Value → HP → Prop} {pc : Nat} {ls st : List Value} {n : Nat} {G : HP} {q : Fin 4} {v : Value} (hd : decode M.2.1 pc = .ok (.istore_n q, 1)) (hk0 : (q : Nat) < ls.length) (hn : nl ls (q : Nat)) (hv : isI v = true) (K : V Γ d n0 nE M Q (pc + 1) (ls.set (q : Nat) v) st n G) : V Γ d n0 nE M Q pc ls (v :: st) n G := by
  intro p l e R s m args below meth c Fin C H locs lsA hl hR hS
  obtain ⟨x, rfl⟩ := isI_of hv
  have hk := hk0
  rw [hl.2] at hk
  exact lv_istore_n C.1 C.2.1 hd rfl hl.1 hk rfl (fun lsB h => K p l e R s m args below meth c Fin C H locs lsB (Lc.set1 hl.2 hn h) hR hS)
theorem V_astore {Γ : GE} {d n0 nE : Nat} {M : MD} {Q : Option Value → HP → Prop} {pc : Nat} {ls st : List Value} {n : Nat} {G : HP} {k : Nat} {v : Value} (hd : decode M.2.1 pc = .ok (.astore k, 2)) (hk0 : k < ls.length) (hn : nl ls k) (hv : isR v = true) (K : V Γ d n0 nE M Q (pc + 2) (ls.set k v) st n G) : V Γ d n0 nE M Q pc ls (v :: st) n G := by
  intro p l e R s m args below meth c Fin C H locs lsA hl hR hS
  obtain ⟨x, rfl⟩ := isR_of hv
  have hk := hk0
  rw [hl.2] at hk
  exact lv_astore C.1 C.2.1 hd hl.1 hk rfl (fun lsB h => K p l e R s m args below meth c Fin C H locs lsB (Lc.set1 hl.2 hn h) hR hS)
theorem V_astore_n {Γ : GE} {d n0 nE : Nat} {M : MD} {Q : Option Value → HP → Prop} {pc : Nat} {ls st : List Value} {n : Nat} {G : HP} {q : Fin 4} {v : Value} (hd : decode M.2.1 pc = .ok (.astore_n q, 1)) (hk0 : (q : Nat) < ls.length) (hn : nl ls (q : Nat)) (hv : isR v = true) (K : V Γ d n0 nE M Q (pc + 1) (ls.set (q : Nat) v) st n G) : V Γ d n0 nE M Q pc ls (v :: st) n G := by
  intro p l e R s m args below meth c Fin C H locs lsA hl hR hS
  obtain ⟨x, rfl⟩ := isR_of hv
  have hk := hk0
  rw [hl.2] at hk
  exact lv_astore_n C.1 C.2.1 hd rfl hl.1 hk rfl (fun lsB h => K p l e R s m args below meth c Fin C H locs lsB (Lc.set1 hl.2 hn h) hR hS)
theorem V_lstore {Γ : GE} {d n0 nE : Nat} {M : MD} {Q : Option Value → HP → Prop} {pc : Nat} {ls st : List Value} {n : Nat} {G : HP} {k : Nat} {v : Value} (hd : decode M.2.1 pc = .ok (.lstore k, 2)) (hk0 : k + 1 < ls.length) (hn : nl ls k) (hv : isL v = true) (K : V Γ d n0 nE M Q (pc + 2) ((ls.set k v).set (k + 1) uu) st n G) : V Γ d n0 nE M Q pc ls (v :: st) n G := by
  intro p l e R s m args below meth c Fin C H locs lsA hl hR hS
  obtain ⟨x, rfl⟩ := isL_of hv
  have hk := hk0
  rw [hl.2] at hk
  exact lv_lstore C.1 C.2.1 hd hl.1 hk rfl (fun lsB h => K p l e R s m args below meth c Fin C H locs lsB (Lc.set2 hl.2 hn h) hR hS)
theorem V_lstore_n {Γ : GE} {d n0 nE : Nat} {M : MD} {Q : Option Value → HP → Prop} {pc : Nat} {ls st : List Value} {n : Nat} {G : HP} {q : Fin 4} {v : Value} (hd : decode M.2.1 pc = .ok (.lstore_n q, 1)) (hk0 : (q : Nat) + 1 < ls.length) (hn : nl ls (q : Nat)) (hv : isL v = true) (K : V Γ d n0 nE M Q (pc + 1) ((ls.set (q : Nat) v).set ((q : Nat) + 1) uu) st n G) : V Γ d n0 nE M Q pc ls (v :: st) n G := by
  intro p l e R s m args below meth c Fin C H locs lsA hl hR hS
  obtain ⟨x, rfl⟩ := isL_of hv
  have hk := hk0
  rw [hl.2] at hk
  exact lv_lstore_n C.1 C.2.1 hd rfl hl.1 hk rfl (fun lsB h => K p l e R s m args below meth c Fin C H locs lsB (Lc.set2 hl.2 hn h) hR hS)
theorem V_iinc {Γ : GE} {d n0 nE : Nat} {M : MD} {Q : Option Value → HP → Prop} {pc : Nat} {ls st : List Value} {n : Nat} {G : HP} {k : Nat} {z w : Int} (hd : decode M.2.1 pc = .ok (.iinc k w, 3)) (hg0 : ls[k]? = some (vI z)) (hn : nl ls k) (K : V Γ d n0 nE M Q (pc + 3) (ls.set k (vI (z + w))) st n G) : V Γ d n0 nE M Q pc ls st n G := by
  intro p l e R s m args below meth c Fin C H locs lsA hl hR hS
  obtain ⟨j, hj⟩ := hl.at hg0 (by intro h; cases h)
  have hk : k < M.2.2.1 := by rw [← hl.2]; exact (List.getElem?_eq_some_iff.mp hg0).1
  refine lv_iinc C.1 C.2.1 (v := Int32.ofInt (z + w)) hd hl.1 hj (by rw [Int32.ofInt_add]) hk rfl (fun lsB h => ?_)
  exact K p l e R s m args below meth c Fin C H locs lsB (Lc.set1 hl.2 hn h) hR hS
theorem V_iadd {Γ : GE} {d n0 nE : Nat} {M : MD} {Q : Option Value → HP → Prop} {pc : Nat} {ls st : List Value} {n : Nat} {G : HP} {a b : Int} (hd : decode M.2.1 pc = .ok (.iadd, 1)) (K : V Γ d n0 nE M Q (pc + 1) ls (vI (a + b) :: st) n G) : V Γ d n0 nE M Q pc ls (vI b :: vI a :: st) n G := by
  intro p l e R s m args below meth c Fin C H locs lsA hl hR hS
  have k := (K p l e R s m args below meth c Fin C H locs lsA hl hR hS)
  rw [show vI (a + b) = .int (Int32.ofInt a + Int32.ofInt b) by unfold vI; rw [Int32.ofInt_add]] at k
  exact lv_iadd C.1 C.2.1 hd k
theorem V_isub {Γ : GE} {d n0 nE : Nat} {M : MD} {Q : Option Value → HP → Prop} {pc : Nat} {ls st : List Value} {n : Nat} {G : HP} {a b : Int} (hd : decode M.2.1 pc = .ok (.isub, 1)) (K : V Γ d n0 nE M Q (pc + 1) ls (vI (a - b) :: st) n G) : V Γ d n0 nE M Q pc ls (vI b :: vI a :: st) n G := by
  intro p l e R s m args below meth c Fin C H locs lsA hl hR hS
  have k := (K p l e R s m args below meth c Fin C H locs lsA hl hR hS)
  rw [show vI (a - b) = .int (Int32.ofInt a - Int32.ofInt b) by unfold vI; rw [Int32.ofInt_sub]] at k
  exact lv_isub C.1 C.2.1 hd k
theorem V_imul {Γ : GE} {d n0 nE : Nat} {M : MD} {Q : Option Value → HP → Prop} {pc : Nat} {ls st : List Value} {n : Nat} {G : HP} {a b : Int} (hd : decode M.2.1 pc = .ok (.imul, 1)) (K : V Γ d n0 nE M Q (pc + 1) ls (vI (a * b) :: st) n G) : V Γ d n0 nE M Q pc ls (vI b :: vI a :: st) n G := by
  intro p l e R s m args below meth c Fin C H locs lsA hl hR hS
  have k := (K p l e R s m args below meth c Fin C H locs lsA hl hR hS)
  rw [show vI (a * b) = .int (Int32.ofInt a * Int32.ofInt b) by unfold vI; rw [Int32.ofInt_mul]] at k
  exact lv_imul C.1 C.2.1 hd k
theorem V_iand {Γ : GE} {d n0 nE : Nat} {M : MD} {Q : Option Value → HP → Prop} {pc : Nat} {ls st : List Value} {n : Nat} {G : HP} {a b : Int} (hd : decode M.2.1 pc = .ok (.iand, 1)) (K : V Γ d n0 nE M Q (pc + 1) ls (vI (jand a b) :: st) n G) : V Γ d n0 nE M Q pc ls (vI b :: vI a :: st) n G := by
  intro p l e R s m args below meth c Fin C H locs lsA hl hR hS
  have k := (K p l e R s m args below meth c Fin C H locs lsA hl hR hS)
  rw [jand, vI_toInt] at k
  exact lv_iand C.1 C.2.1 hd k
theorem V_ior {Γ : GE} {d n0 nE : Nat} {M : MD} {Q : Option Value → HP → Prop} {pc : Nat} {ls st : List Value} {n : Nat} {G : HP} {a b : Int} (hd : decode M.2.1 pc = .ok (.ior, 1)) (K : V Γ d n0 nE M Q (pc + 1) ls (vI (jor a b) :: st) n G) : V Γ d n0 nE M Q pc ls (vI b :: vI a :: st) n G := by
  intro p l e R s m args below meth c Fin C H locs lsA hl hR hS
  have k := (K p l e R s m args below meth c Fin C H locs lsA hl hR hS)
  rw [jor, vI_toInt] at k
  exact lv_ior C.1 C.2.1 hd k
theorem V_ixor {Γ : GE} {d n0 nE : Nat} {M : MD} {Q : Option Value → HP → Prop} {pc : Nat} {ls st : List Value} {n : Nat} {G : HP} {a b : Int} (hd : decode M.2.1 pc = .ok (.ixor, 1)) (K : V Γ d n0 nE M Q (pc + 1) ls (vI (jxor a b) :: st) n G) : V Γ d n0 nE M Q pc ls (vI b :: vI a :: st) n G := by
  intro p l e R s m args below meth c Fin C H locs lsA hl hR hS
  have k := (K p l e R s m args below meth c Fin C H locs lsA hl hR hS)
  rw [jxor, vI_toInt] at k
  exact lv_ixor C.1 C.2.1 hd k
theorem V_ishl {Γ : GE} {d n0 nE : Nat} {M : MD} {Q : Option Value → HP → Prop} {pc : Nat} {ls st : List Value} {n : Nat} {G : HP} {a b : Int} (hd : decode M.2.1 pc = .ok (.ishl, 1)) (K : V Γ d n0 nE M Q (pc + 1) ls (vI (jshl a b) :: st) n G) : V Γ d n0 nE M Q pc ls (vI b :: vI a :: st) n G := by
  intro p l e R s m args below meth c Fin C H locs lsA hl hR hS
  have k := (K p l e R s m args below meth c Fin C H locs lsA hl hR hS)
  rw [jshl, vI_toInt] at k
  exact lv_ishl C.1 C.2.1 hd k
theorem V_ishr {Γ : GE} {d n0 nE : Nat} {M : MD} {Q : Option Value → HP → Prop} {pc : Nat} {ls st : List Value} {n : Nat} {G : HP} {a b : Int} (hd : decode M.2.1 pc = .ok (.ishr, 1)) (K : V Γ d n0 nE M Q (pc + 1) ls (vI (jshr a b) :: st) n G) : V Γ d n0 nE M Q pc ls (vI b :: vI a :: st) n G := by
  intro p l e R s m args below meth c Fin C H locs lsA hl hR hS
  have k := (K p l e R s m args below meth c Fin C H locs lsA hl hR hS)
  rw [jshr, vI_toInt] at k
  exact lv_ishr C.1 C.2.1 hd k
theorem V_iushr {Γ : GE} {d n0 nE : Nat} {M : MD} {Q : Option Value → HP → Prop} {pc : Nat} {ls st : List Value} {n : Nat} {G : HP} {a b : Int} (hd : decode M.2.1 pc = .ok (.iushr, 1)) (K : V Γ d n0 nE M Q (pc + 1) ls (vI (jushr a b) :: st) n G) : V Γ d n0 nE M Q pc ls (vI b :: vI a :: st) n G := by
  intro p l e R s m args below meth c Fin C H locs lsA hl hR hS
  have k := (K p l e R s m args below meth c Fin C H locs lsA hl hR hS)
  rw [jushr, vI_toInt] at k
  exact lv_iushr C.1 C.2.1 hd rfl k
theorem V_ineg {Γ : GE} {d n0 nE : Nat} {M : MD} {Q : Option Value → HP → Prop} {pc : Nat} {ls st : List Value} {n : Nat} {G : HP} {a : Int} (hd : decode M.2.1 pc = .ok (.ineg, 1)) (K : V Γ d n0 nE M Q (pc + 1) ls (vI (-a) :: st) n G) : V Γ d n0 nE M Q pc ls (vI a :: st) n G := by
  intro p l e R s m args below meth c Fin C H locs lsA hl hR hS
  have k := (K p l e R s m args below meth c Fin C H locs lsA hl hR hS)
  rw [show vI (-a) = .int (0 - Int32.ofInt a) by unfold vI; rw [Int32.ofInt_neg, Int32.zero_sub]] at k
  exact lv_ineg C.1 C.2.1 hd k
theorem V_i2b {Γ : GE} {d n0 nE : Nat} {M : MD} {Q : Option Value → HP → Prop} {pc : Nat} {ls st : List Value} {n : Nat} {G : HP} {a : Int} (hd : decode M.2.1 pc = .ok (.i2b, 1)) (K : V Γ d n0 nE M Q (pc + 1) ls (vI (ji2b a) :: st) n G) : V Γ d n0 nE M Q pc ls (vI a :: st) n G := by
  intro p l e R s m args below meth c Fin C H locs lsA hl hR hS
  have k := (K p l e R s m args below meth c Fin C H locs lsA hl hR hS)
  rw [ji2b, vI_toInt] at k
  exact lv_i2b C.1 C.2.1 hd rfl k
theorem V_i2c {Γ : GE} {d n0 nE : Nat} {M : MD} {Q : Option Value → HP → Prop} {pc : Nat} {ls st : List Value} {n : Nat} {G : HP} {a : Int} (hd : decode M.2.1 pc = .ok (.i2c, 1)) (K : V Γ d n0 nE M Q (pc + 1) ls (vI (ji2c a) :: st) n G) : V Γ d n0 nE M Q pc ls (vI a :: st) n G := by
  intro p l e R s m args below meth c Fin C H locs lsA hl hR hS
  have k := (K p l e R s m args below meth c Fin C H locs lsA hl hR hS)
  rw [ji2c, vI_toInt] at k
  exact lv_i2c C.1 C.2.1 hd rfl k
theorem V_i2l {Γ : GE} {d n0 nE : Nat} {M : MD} {Q : Option Value → HP → Prop} {pc : Nat} {ls st : List Value} {n : Nat} {G : HP} {a : Int} (hd : decode M.2.1 pc = .ok (.i2l, 1)) (K : V Γ d n0 nE M Q (pc + 1) ls (.long (ji2l a) :: st) n G) : V Γ d n0 nE M Q pc ls (vI a :: st) n G := by
  intro p l e R s m args below meth c Fin C H locs lsA hl hR hS
  have k := (K p l e R s m args below meth c Fin C H locs lsA hl hR hS)
  exact lv_i2l C.1 C.2.1 hd rfl k
theorem V_l2i {Γ : GE} {d n0 nE : Nat} {M : MD} {Q : Option Value → HP → Prop} {pc : Nat} {ls st : List Value} {n : Nat} {G : HP} {a : Int64} (hd : decode M.2.1 pc = .ok (.l2i, 1)) (K : V Γ d n0 nE M Q (pc + 1) ls (vI (jl2i a) :: st) n G) : V Γ d n0 nE M Q pc ls (.long a :: st) n G := by
  intro p l e R s m args below meth c Fin C H locs lsA hl hR hS
  have k := (K p l e R s m args below meth c Fin C H locs lsA hl hR hS)
  rw [jl2i, vI_toInt] at k
  exact lv_l2i C.1 C.2.1 hd rfl k
theorem V_ladd {Γ : GE} {d n0 nE : Nat} {M : MD} {Q : Option Value → HP → Prop} {pc : Nat} {ls st : List Value} {n : Nat} {G : HP} {a b : Int64} (hd : decode M.2.1 pc = .ok (.ladd, 1)) (K : V Γ d n0 nE M Q (pc + 1) ls (.long (a + b) :: st) n G) : V Γ d n0 nE M Q pc ls (.long b :: .long a :: st) n G := by
  intro p l e R s m args below meth c Fin C H locs lsA hl hR hS
  have k := (K p l e R s m args below meth c Fin C H locs lsA hl hR hS)
  exact lv_ladd C.1 C.2.1 hd k
theorem V_lmul {Γ : GE} {d n0 nE : Nat} {M : MD} {Q : Option Value → HP → Prop} {pc : Nat} {ls st : List Value} {n : Nat} {G : HP} {a b : Int64} (hd : decode M.2.1 pc = .ok (.lmul, 1)) (K : V Γ d n0 nE M Q (pc + 1) ls (.long (a * b) :: st) n G) : V Γ d n0 nE M Q pc ls (.long b :: .long a :: st) n G := by
  intro p l e R s m args below meth c Fin C H locs lsA hl hR hS
  have k := (K p l e R s m args below meth c Fin C H locs lsA hl hR hS)
  exact lv_lmul C.1 C.2.1 hd k
theorem V_ldiv {Γ : GE} {d n0 nE : Nat} {M : MD} {Q : Option Value → HP → Prop} {pc : Nat} {ls st : List Value} {n : Nat} {G : HP} {a b : Int64} (hd : decode M.2.1 pc = .ok (.ldiv, 1)) (hne : ¬ b = 0) (K : V Γ d n0 nE M Q (pc + 1) ls (.long (a / b) :: st) n G) : V Γ d n0 nE M Q pc ls (.long b :: .long a :: st) n G := by
  intro p l e R s m args below meth c Fin C H locs lsA hl hR hS
  have k := (K p l e R s m args below meth c Fin C H locs lsA hl hR hS)
  exact lv_ldiv C.1 C.2.1 hd hne k
theorem V_lrem {Γ : GE} {d n0 nE : Nat} {M : MD} {Q : Option Value → HP → Prop} {pc : Nat} {ls st : List Value} {n : Nat} {G : HP} {a b : Int64} (hd : decode M.2.1 pc = .ok (.lrem, 1)) (hne : ¬ b = 0) (K : V Γ d n0 nE M Q (pc + 1) ls (.long (a - a / b * b) :: st) n G) : V Γ d n0 nE M Q pc ls (.long b :: .long a :: st) n G := by
  intro p l e R s m args below meth c Fin C H locs lsA hl hR hS
  have k := (K p l e R s m args below meth c Fin C H locs lsA hl hR hS)
  exact lv_lrem C.1 C.2.1 hd hne k
theorem ofI_div {a b : Int} (ha : Rg a) (hb : Rg b) (h0 : 0 ≤ a) (h1 : 0 < b) : Int32.ofInt a / Int32.ofInt b = Int32.ofInt (a / b) := by
  apply Int32.toInt_inj.mp
  have hb1 : Int32.ofInt b ≠ -1 := by
    intro h
    have := congrArg Int32.toInt h
    rw [hb.toInt] at this
    have e : (-1 : Int32).toInt = -1 := rfl
    omega
  have hq : Rg (a / b) := by
    have h2 : 0 ≤ a / b := Int.ediv_nonneg h0 (by omega)
    have h3 : a / b ≤ a := Int.ediv_le_self _ h0
    have := ha.2
    constructor <;> omega
  rw [Int32.toInt_div_of_ne_right _ _ hb1, ha.toInt, hb.toInt, hq.toInt, Int.tdiv_eq_ediv_of_nonneg h0]
theorem ofI_rem {a b : Int} (ha : Rg a) (hb : Rg b) (h0 : 0 ≤ a) (h1 : 0 < b) : Int32.ofInt a - Int32.ofInt a / Int32.ofInt b * Int32.ofInt b = Int32.ofInt (a % b) := by
  rw [ofI_div ha hb h0 h1, ← Int32.ofInt_mul, ← Int32.ofInt_sub]
  congr 1
  have := Int.mul_ediv_add_emod a b
  rw [Int.mul_comm] at this
  omega
theorem ofI_ne0 {b : Int} (hb : Rg b) (h1 : 0 < b) : ¬ Int32.ofInt b = 0 := by
  intro h
  have := congrArg Int32.toInt h
  rw [hb.toInt] at this
  have e : (0 : Int32).toInt = 0 := rfl
  omega
theorem V_idiv {Γ : GE} {d n0 nE : Nat} {M : MD} {Q : Option Value → HP → Prop} {pc : Nat} {ls st : List Value} {n : Nat} {G : HP} {a b : Int} (hd : decode M.2.1 pc = .ok (.idiv, 1)) (ha : Rg a) (hb : Rg b) (h0 : 0 ≤ a) (h1 : 0 < b) (K : V Γ d n0 nE M Q (pc + 1) ls (vI (a / b) :: st) n G) : V Γ d n0 nE M Q pc ls (vI b :: vI a :: st) n G := by
  intro p l e R s m args below meth c Fin C H locs lsA hl hR hS
  have k := (K p l e R s m args below meth c Fin C H locs lsA hl hR hS)
  rw [vI, ← ofI_div ha hb h0 h1] at k
  exact lv_idiv C.1 C.2.1 hd (ofI_ne0 hb h1) k
theorem V_irem {Γ : GE} {d n0 nE : Nat} {M : MD} {Q : Option Value → HP → Prop} {pc : Nat} {ls st : List Value} {n : Nat} {G : HP} {a b : Int} (hd : decode M.2.1 pc = .ok (.irem, 1)) (ha : Rg a) (hb : Rg b) (h0 : 0 ≤ a) (h1 : 0 < b) (K : V Γ d n0 nE M Q (pc + 1) ls (vI (a % b) :: st) n G) : V Γ d n0 nE M Q pc ls (vI b :: vI a :: st) n G := by
  intro p l e R s m args below meth c Fin C H locs lsA hl hR hS
  have k := (K p l e R s m args below meth c Fin C H locs lsA hl hR hS)
  rw [vI, ← ofI_rem ha hb h0 h1] at k
  exact lv_irem C.1 C.2.1 hd (ofI_ne0 hb h1) k
theorem V_dup {Γ : GE} {d n0 nE : Nat} {M : MD} {Q : Option Value → HP → Prop} {pc : Nat} {ls st : List Value} {n : Nat} {G : HP} {v : Value} (hd : decode M.2.1 pc = .ok (.dup, 1)) (hv : v.category = 1) (K : V Γ d n0 nE M Q (pc + 1) ls (v :: v :: st) n G) : V Γ d n0 nE M Q pc ls (v :: st) n G := by
  intro p l e R s m args below meth c Fin C H locs lsA hl hR hS
  have k := (K p l e R s m args below meth c Fin C H locs lsA hl hR hS)
  exact lv_dup C.1 C.2.1 hd hv k
theorem V_pop {Γ : GE} {d n0 nE : Nat} {M : MD} {Q : Option Value → HP → Prop} {pc : Nat} {ls st : List Value} {n : Nat} {G : HP} {v : Value} (hd : decode M.2.1 pc = .ok (.pop, 1)) (hv : v.category = 1) (K : V Γ d n0 nE M Q (pc + 1) ls (st) n G) : V Γ d n0 nE M Q pc ls (v :: st) n G := by
  intro p l e R s m args below meth c Fin C H locs lsA hl hR hS
  have k := (K p l e R s m args below meth c Fin C H locs lsA hl hR hS)
  exact lv_pop C.1 C.2.1 hd hv k
theorem V_dup_x1 {Γ : GE} {d n0 nE : Nat} {M : MD} {Q : Option Value → HP → Prop} {pc : Nat} {ls st : List Value} {n : Nat} {G : HP} {v w : Value} (hd : decode M.2.1 pc = .ok (.dup_x1, 1)) (hv : v.category = 1) (hw : w.category = 1) (K : V Γ d n0 nE M Q (pc + 1) ls (v :: w :: v :: st) n G) : V Γ d n0 nE M Q pc ls (v :: w :: st) n G := by
  intro p l e R s m args below meth c Fin C H locs lsA hl hR hS
  have k := (K p l e R s m args below meth c Fin C H locs lsA hl hR hS)
  exact lv_dup_x1 C.1 C.2.1 hd hv hw k
theorem V_dup2 {Γ : GE} {d n0 nE : Nat} {M : MD} {Q : Option Value → HP → Prop} {pc : Nat} {ls st : List Value} {n : Nat} {G : HP} {v w : Value} (hd : decode M.2.1 pc = .ok (.dup2, 1)) (hv : v.category = 1) (hw : w.category = 1) (K : V Γ d n0 nE M Q (pc + 1) ls (v :: w :: v :: w :: st) n G) : V Γ d n0 nE M Q pc ls (v :: w :: st) n G := by
  intro p l e R s m args below meth c Fin C H locs lsA hl hR hS
  have k := (K p l e R s m args below meth c Fin C H locs lsA hl hR hS)
  exact lv_dup2_11 C.1 C.2.1 hd hv hw k
theorem V_icmp_eq {Γ : GE} {d n0 nE : Nat} {M : MD} {Q : Option Value → HP → Prop} {pc : Nat} {ls st : List Value} {n : Nat} {G : HP} {a b : Int} {off : Int} (tgt : Nat) (hd : decode M.2.1 pc = .ok (.if_icmp .eq off, 3)) (ht : (pc : Int) + off = (tgt : Int)) (ha : Rg a) (hb : Rg b) (K : (a = b → V Γ d n0 nE M Q tgt ls st n G) ∧ (¬ (a = b) → V Γ d n0 nE M Q (pc + 3) ls st n G)) : V Γ d n0 nE M Q pc ls (vI b :: vI a :: st) n G := by
  intro p l e R s m args below meth c Fin C H locs lsA hl hR hS
  exact lv_icmp_eq C.1 C.2.1 hd ht (fun h => (K.1 ((Rg.eq ha hb).mp h) p l e R s m args below meth c Fin C H locs lsA hl hR hS)) (fun h => (K.2 (fun z => h ((Rg.eq ha hb).mpr z)) p l e R s m args below meth c Fin C H locs lsA hl hR hS))
theorem V_if_eq {Γ : GE} {d n0 nE : Nat} {M : MD} {Q : Option Value → HP → Prop} {pc : Nat} {ls st : List Value} {n : Nat} {G : HP} {a : Int} {off : Int} (tgt : Nat) (hd : decode M.2.1 pc = .ok (.ifCond .eq off, 3)) (ht : (pc : Int) + off = (tgt : Int)) (ha : Rg a) (K : (a = 0 → V Γ d n0 nE M Q tgt ls st n G) ∧ (¬ (a = 0) → V Γ d n0 nE M Q (pc + 3) ls st n G)) : V Γ d n0 nE M Q pc ls (vI a :: st) n G := by
  intro p l e R s m args below meth c Fin C H locs lsA hl hR hS
  exact lv_if_eq C.1 C.2.1 hd ht (fun h => (K.1 ((Rg.eq ha Rg.zero).mp h) p l e R s m args below meth c Fin C H locs lsA hl hR hS)) (fun h => (K.2 (fun z => h ((Rg.eq ha Rg.zero).mpr z)) p l e R s m args below meth c Fin C H locs lsA hl hR hS))
theorem V_icmp_ne {Γ : GE} {d n0 nE : Nat} {M : MD} {Q : Option Value → HP → Prop} {pc : Nat} {ls st : List Value} {n : Nat} {G : HP} {a b : Int} {off : Int} (tgt : Nat) (hd : decode M.2.1 pc = .ok (.if_icmp .ne off, 3)) (ht : (pc : Int) + off = (tgt : Int)) (ha : Rg a) (hb : Rg b) (K : (¬ a = b → V Γ d n0 nE M Q tgt ls st n G) ∧ (a = b → V Γ d n0 nE M Q (pc + 3) ls st n G)) : V Γ d n0 nE M Q pc ls (vI b :: vI a :: st) n G := by
  intro p l e R s m args below meth c Fin C H locs lsA hl hR hS
  exact lv_icmp_ne C.1 C.2.1 hd ht (fun h => (K.1 ((not_congr (Rg.eq ha hb)).mp h) p l e R s m args below meth c Fin C H locs lsA hl hR hS)) (fun h => (K.2 ((Rg.eq ha hb).mp h) p l e R s m args below meth c Fin C H locs lsA hl hR hS))
theorem V_if_ne {Γ : GE} {d n0 nE : Nat} {M : MD} {Q : Option Value → HP → Prop} {pc : Nat} {ls st : List Value} {n : Nat} {G : HP} {a : Int} {off : Int} (tgt : Nat) (hd : decode M.2.1 pc = .ok (.ifCond .ne off, 3)) (ht : (pc : Int) + off = (tgt : Int)) (ha : Rg a) (K : (¬ a = 0 → V Γ d n0 nE M Q tgt ls st n G) ∧ (a = 0 → V Γ d n0 nE M Q (pc + 3) ls st n G)) : V Γ d n0 nE M Q pc ls (vI a :: st) n G := by
  intro p l e R s m args below meth c Fin C H locs lsA hl hR hS
  exact lv_if_ne C.1 C.2.1 hd ht (fun h => (K.1 ((not_congr (Rg.eq ha Rg.zero)).mp h) p l e R s m args below meth c Fin C H locs lsA hl hR hS)) (fun h => (K.2 ((Rg.eq ha Rg.zero).mp h) p l e R s m args below meth c Fin C H locs lsA hl hR hS))
theorem V_icmp_lt {Γ : GE} {d n0 nE : Nat} {M : MD} {Q : Option Value → HP → Prop} {pc : Nat} {ls st : List Value} {n : Nat} {G : HP} {a b : Int} {off : Int} (tgt : Nat) (hd : decode M.2.1 pc = .ok (.if_icmp .lt off, 3)) (ht : (pc : Int) + off = (tgt : Int)) (ha : Rg a) (hb : Rg b) (K : (a < b → V Γ d n0 nE M Q tgt ls st n G) ∧ (¬ (a < b) → V Γ d n0 nE M Q (pc + 3) ls st n G)) : V Γ d n0 nE M Q pc ls (vI b :: vI a :: st) n G := by
  intro p l e R s m args below meth c Fin C H locs lsA hl hR hS
  exact lv_icmp_lt C.1 C.2.1 hd ht (fun h => (K.1 ((Rg.lt ha hb).mp h) p l e R s m args below meth c Fin C H locs lsA hl hR hS)) (fun h => (K.2 (fun z => h ((Rg.lt ha hb).mpr z)) p l e R s m args below meth c Fin C H locs lsA hl hR hS))
theorem V_if_lt {Γ : GE} {d n0 nE : Nat} {M : MD} {Q : Option Value → HP → Prop} {pc : Nat} {ls st : List Value} {n : Nat} {G : HP} {a : Int} {off : Int} (tgt : Nat) (hd : decode M.2.1 pc = .ok (.ifCond .lt off, 3)) (ht : (pc : Int) + off = (tgt : Int)) (ha : Rg a) (K : (a < 0 → V Γ d n0 nE M Q tgt ls st n G) ∧ (¬ (a < 0) → V Γ d n0 nE M Q (pc + 3) ls st n G)) : V Γ d n0 nE M Q pc ls (vI a :: st) n G := by
  intro p l e R s m args below meth c Fin C H locs lsA hl hR hS
  exact lv_if_lt C.1 C.2.1 hd ht (fun h => (K.1 ((Rg.lt ha Rg.zero).mp h) p l e R s m args below meth c Fin C H locs lsA hl hR hS)) (fun h => (K.2 (fun z => h ((Rg.lt ha Rg.zero).mpr z)) p l e R s m args below meth c Fin C H locs lsA hl hR hS))
theorem V_icmp_ge {Γ : GE} {d n0 nE : Nat} {M : MD} {Q : Option Value → HP → Prop} {pc : Nat} {ls st : List Value} {n : Nat} {G : HP} {a b : Int} {off : Int} (tgt : Nat) (hd : decode M.2.1 pc = .ok (.if_icmp .ge off, 3)) (ht : (pc : Int) + off = (tgt : Int)) (ha : Rg a) (hb : Rg b) (K : (b ≤ a → V Γ d n0 nE M Q tgt ls st n G) ∧ (¬ (b ≤ a) → V Γ d n0 nE M Q (pc + 3) ls st n G)) : V Γ d n0 nE M Q pc ls (vI b :: vI a :: st) n G := by
  intro p l e R s m args below meth c Fin C H locs lsA hl hR hS
  exact lv_icmp_ge C.1 C.2.1 hd ht (fun h => (K.1 ((Rg.le hb ha).mp h) p l e R s m args below meth c Fin C H locs lsA hl hR hS)) (fun h => (K.2 (fun z => h ((Rg.le hb ha).mpr z)) p l e R s m args below meth c Fin C H locs lsA hl hR hS))
theorem V_if_ge {Γ : GE} {d n0 nE : Nat} {M : MD} {Q : Option Value → HP → Prop} {pc : Nat} {ls st : List Value} {n : Nat} {G : HP} {a : Int} {off : Int} (tgt : Nat) (hd : decode M.2.1 pc = .ok (.ifCond .ge off, 3)) (ht : (pc : Int) + off = (tgt : Int)) (ha : Rg a) (K : (0 ≤ a → V Γ d n0 nE M Q tgt ls st n G) ∧ (¬ (0 ≤ a) → V Γ d n0 nE M Q (pc + 3) ls st n G)) : V Γ d n0 nE M Q pc ls (vI a :: st) n G := by
  intro p l e R s m args below meth c Fin C H locs lsA hl hR hS
  exact lv_if_ge C.1 C.2.1 hd ht (fun h => (K.1 ((Rg.le Rg.zero ha).mp h) p l e R s m args below meth c Fin C H locs lsA hl hR hS)) (fun h => (K.2 (fun z => h ((Rg.le Rg.zero ha).mpr z)) p l e R s m args below meth c Fin C H locs lsA hl hR hS))
theorem V_icmp_gt {Γ : GE} {d n0 nE : Nat} {M : MD} {Q : Option Value → HP → Prop} {pc : Nat} {ls st : List Value} {n : Nat} {G : HP} {a b : Int} {off : Int} (tgt : Nat) (hd : decode M.2.1 pc = .ok (.if_icmp .gt off, 3)) (ht : (pc : Int) + off = (tgt : Int)) (ha : Rg a) (hb : Rg b) (K : (b < a → V Γ d n0 nE M Q tgt ls st n G) ∧ (¬ (b < a) → V Γ d n0 nE M Q (pc + 3) ls st n G)) : V Γ d n0 nE M Q pc ls (vI b :: vI a :: st) n G := by
  intro p l e R s m args below meth c Fin C H locs lsA hl hR hS
  exact lv_icmp_gt C.1 C.2.1 hd ht (fun h => (K.1 ((Rg.lt hb ha).mp h) p l e R s m args below meth c Fin C H locs lsA hl hR hS)) (fun h => (K.2 (fun z => h ((Rg.lt hb ha).mpr z)) p l e R s m args below meth c Fin C H locs lsA hl hR hS))
theorem V_if_gt {Γ : GE} {d n0 nE : Nat} {M : MD} {Q : Option Value → HP → Prop} {pc : Nat} {ls st : List Value} {n : Nat} {G : HP} {a : Int} {off : Int} (tgt : Nat) (hd : decode M.2.1 pc = .ok (.ifCond .gt off, 3)) (ht : (pc : Int) + off = (tgt : Int)) (ha : Rg a) (K : (0 < a → V Γ d n0 nE M Q tgt ls st n G) ∧ (¬ (0 < a) → V Γ d n0 nE M Q (pc + 3) ls st n G)) : V Γ d n0 nE M Q pc ls (vI a :: st) n G := by
  intro p l e R s m args below meth c Fin C H locs lsA hl hR hS
  exact lv_if_gt C.1 C.2.1 hd ht (fun h => (K.1 ((Rg.lt Rg.zero ha).mp h) p l e R s m args below meth c Fin C H locs lsA hl hR hS)) (fun h => (K.2 (fun z => h ((Rg.lt Rg.zero ha).mpr z)) p l e R s m args below meth c Fin C H locs lsA hl hR hS))
theorem V_icmp_le {Γ : GE} {d n0 nE : Nat} {M : MD} {Q : Option Value → HP → Prop} {pc : Nat} {ls st : List Value} {n : Nat} {G : HP} {a b : Int} {off : Int} (tgt : Nat) (hd : decode M.2.1 pc = .ok (.if_icmp .le off, 3)) (ht : (pc : Int) + off = (tgt : Int)) (ha : Rg a) (hb : Rg b) (K : (a ≤ b → V Γ d n0 nE M Q tgt ls st n G) ∧ (¬ (a ≤ b) → V Γ d n0 nE M Q (pc + 3) ls st n G)) : V Γ d n0 nE M Q pc ls (vI b :: vI a :: st) n G := by
  intro p l e R s m args below meth c Fin C H locs lsA hl hR hS
  exact lv_icmp_le C.1 C.2.1 hd ht (fun h => (K.1 ((Rg.le ha hb).mp h) p l e R s m args below meth c Fin C H locs lsA hl hR hS)) (fun h => (K.2 (fun z => h ((Rg.le ha hb).mpr z)) p l e R s m args below meth c Fin C H locs lsA hl hR hS))
theorem V_if_le {Γ : GE} {d n0 nE : Nat} {M : MD} {Q : Option Value → HP → Prop} {pc : Nat} {ls st : List Value} {n : Nat} {G : HP} {a : Int} {off : Int} (tgt : Nat) (hd : decode M.2.1 pc = .ok (.ifCond .le off, 3)) (ht : (pc : Int) + off = (tgt : Int)) (ha : Rg a) (K : (a ≤ 0 → V Γ d n0 nE M Q tgt ls st n G) ∧ (¬ (a ≤ 0) → V Γ d n0 nE M Q (pc + 3) ls st n G)) : V Γ d n0 nE M Q pc ls (vI a :: st) n G := by
  intro p l e R s m args below meth c Fin C H locs lsA hl hR hS
  exact lv_if_le C.1 C.2.1 hd ht (fun h => (K.1 ((Rg.le ha Rg.zero).mp h) p l e R s m args below meth c Fin C H locs lsA hl hR hS)) (fun h => (K.2 (fun z => h ((Rg.le ha Rg.zero).mpr z)) p l e R s m args below meth c Fin C H locs lsA hl hR hS))
theorem V_goto {Γ : GE} {d n0 nE : Nat} {M : MD} {Q : Option Value → HP → Prop} {pc : Nat} {ls st : List Value} {n : Nat} {G : HP} {off : Int} (tgt : Nat) (hd : decode M.2.1 pc = .ok (.goto off, 3)) (ht : (pc : Int) + off = (tgt : Int)) (K : V Γ d n0 nE M Q tgt ls st n G) : V Γ d n0 nE M Q pc ls st n G := by
  intro p l e R s m args below meth c Fin C H locs lsA hl hR hS
  exact lv_goto C.1 C.2.1 hd ht (K p l e R s m args below meth c Fin C H locs lsA hl hR hS)
theorem V_lookup {Γ : GE} {d n0 nE : Nat} {M : MD} {Q : Option Value → HP → Prop} {pc : Nat} {ls st : List Value} {n : Nat} {G : HP} {dflt : Int} {ps : Array (Int × Int)} {len : Nat} {a off : Int} (tgt : Nat) (hd : decode M.2.1 pc = .ok (.lookupswitch dflt ps, len)) (hp : (ps.toList.zip (ps.toList.drop 1)).all (fun (a, next) => a.1 < next.1) = true) (ha : Rg a) (ho : Op.lookupswitch.offset ps.toList dflt a = off) (ht : (pc : Int) + off = (tgt : Int)) (K : V Γ d n0 nE M Q tgt ls st n G) : V Γ d n0 nE M Q pc ls (vI a :: st) n G := by
  intro p l e R s m args below meth c Fin C H locs lsA hl hR hS
  exact lv_lookup C.1 C.2.1 hd hp (by rw [ha.toInt]; exact ho) ht (K p l e R s m args below meth c Fin C H locs lsA hl hR hS)
theorem V_tableOut {Γ : GE} {d n0 nE : Nat} {M : MD} {Q : Option Value → HP → Prop} {pc : Nat} {ls st : List Value} {n : Nat} {G : HP} {dflt lo hi : Int} {offs : Array Int} {len : Nat} {a : Int} (tgt : Nat) (hd : decode M.2.1 pc = .ok (.tableswitch dflt lo hi offs, len)) (ha : Rg a) (h : a < lo ∨ hi < a) (ht : (pc : Int) + dflt = (tgt : Int)) (K : V Γ d n0 nE M Q tgt ls st n G) : V Γ d n0 nE M Q pc ls (vI a :: st) n G := by
  intro p l e R s m args below meth c Fin C H locs lsA hl hR hS
  exact lv_tableOut C.1 C.2.1 hd (by rw [ha.toInt]; exact h) ht (K p l e R s m args below meth c Fin C H locs lsA hl hR hS)
theorem V_tableIn {Γ : GE} {d n0 nE : Nat} {M : MD} {Q : Option Value → HP → Prop} {pc : Nat} {ls st : List Value} {n : Nat} {G : HP} {dflt lo hi : Int} {offs : Array Int} {len : Nat} {a off : Int} (tgt : Nat) (hd : decode M.2.1 pc = .ok (.tableswitch dflt lo hi offs, len)) (ha : Rg a) (h1 : ¬ a < lo) (h2 : ¬ hi < a) (ho : offs[(a - lo).toNat]? = some off) (ht : (pc : Int) + off = (tgt : Int)) (K : V Γ d n0 nE M Q tgt ls st n G) : V Γ d n0 nE M Q pc ls (vI a :: st) n G := by
  intro p l e R s m args below meth c Fin C H locs lsA hl hR hS
  exact lv_tableIn C.1 C.2.1 hd (by rw [ha.toInt]; exact h1) (by rw [ha.toInt]; exact h2) (by rw [ha.toInt]; exact ho) ht (K p l e R s m args below meth c Fin C H locs lsA hl hR hS)
theorem V_ireturn {Γ : GE} {d n0 nE : Nat} {M : MD} {Q : Option Value → HP → Prop} {pc : Nat} {ls : List Value} {G : HP} {z : Int} (hd : decode M.2.1 pc = .ok (.ireturn, 1)) (hr : M.2.2.2 = some .int) (K : Q (some (vI z)) G) : V Γ d n0 nE M Q pc ls [vI z] nE G := by
  intro p l e R s m args below meth c Fin C H locs lsA hl hR hS
  exact C.2.2.2.2.2.2.2.2.2 pc lsA H locs G _ .int hd hr (vp_nar_int _) hR hS K
theorem V_zreturn {Γ : GE} {d n0 nE : Nat} {M : MD} {Q : Option Value → HP → Prop} {pc : Nat} {ls : List Value} {G : HP} {z : Int} (hd : decode M.2.1 pc = .ok (.ireturn, 1)) (hr : M.2.2.2 = some .boolean) (hz : z = 0 ∨ z = 1) (K : Q (some (vI z)) G) : V Γ d n0 nE M Q pc ls [vI z] nE G := by
  intro p l e R s m args below meth c Fin C H locs lsA hl hR hS
  exact C.2.2.2.2.2.2.2.2.2 pc lsA H locs G _ .boolean hd hr (by rcases hz with rfl | rfl <;> rfl) hR hS K
theorem V_breturn {Γ : GE} {d n0 nE : Nat} {M : MD} {Q : Option Value → HP → Prop} {pc : Nat} {ls : List Value} {G : HP} {z : Int} (hd : decode M.2.1 pc = .ok (.ireturn, 1)) (hr : M.2.2.2 = some .byte) (hz : z = 0) (K : Q (some (vI z)) G) : V Γ d n0 nE M Q pc ls [vI z] nE G := by
  intro p l e R s m args below meth c Fin C H locs lsA hl hR hS
  exact C.2.2.2.2.2.2.2.2.2 pc lsA H locs G _ .byte hd hr (by rw [hz]; rfl) hR hS K
theorem V_vreturn {Γ : GE} {d n0 nE : Nat} {M : MD} {Q : Option Value → HP → Prop} {pc : Nat} {ls : List Value} {G : HP} (hd : decode M.2.1 pc = .ok (.return_, 1)) (hr : M.2.2.2 = none) (K : Q none G) : V Γ d n0 nE M Q pc ls [] nE G := by
  intro p l e R s m args below meth c Fin C H locs lsA hl hR hS
  exact C.2.2.2.2.2.2.2.2.1 pc lsA H locs G hd hr hR hS K
