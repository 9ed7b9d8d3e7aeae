/-! ===== the machine of this claim: worlds, contexts, the judgement V ===== -/
def gw : List Cond := lw_tbl.filter goodWord
theorem gw_of {w : Cond} (i : Nat) (h : lw_tbl[i]? = some w) (hg : goodWord w = true) : w ∈ gw := List.mem_filter.mpr ⟨List.mem_of_getElem? h, hg⟩
theorem gw_good {w : Cond} (h : w ∈ gw) : (w.onTables && w.keeps) = true ∨ ∃ ty, w = .arrayClass ty := good_of_word (List.mem_filter.mp h).2
theorem gw_self : GoodIn gw gw := fun _ h => ⟨h, gw_good h⟩
abbrev MD : Type := MethodName × ByteArray × Nat × Option FieldType
def wsM (M : MD) : List Cond := Cond.code M.1 M.2.1 M.2.2.1 M.2.2.2 :: gw
abbrev GE : Type := va_G × (Nat → ClassId) × Nat × (Nat → Nat) × (Nat → Int32) × Nat
def gD (Γ : GE) : va_G := Γ.1
def gC (Γ : GE) : Nat → ClassId := Γ.2.1
def gB (Γ : GE) : Nat := Γ.2.2.1
def gS (Γ : GE) : Nat → Nat := Γ.2.2.2.1
def gX (Γ : GE) : Nat → Int32 := Γ.2.2.2.2.1
def gL (Γ : GE) : Nat := Γ.2.2.2.2.2
abbrev HP : Type := Nat → Nat → Value
def hA (Γ : GE) : Nat → Prop := fun q => gB Γ ≤ q
def layL : List (Nat × Nat) := [(10, 10), (8, 3), (20, 240), (0, 2), (2, 4), (20, 12), (20, 6), (9, 2), (20, 5), (20, 116), (7, 3), (23, 16), (2, 4), (20, 12), (20, 6), (2, 4), (20, 12), (20, 6), (2, 4), (20, 12), (20, 6), (2, 4), (20, 12), (20, 6), (2, 4), (20, 12), (20, 6), (2, 4), (20, 12), (20, 6), (2, 4), (20, 12), (20, 6), (2, 4), (20, 12), (20, 6), (2, 4), (20, 12), (20, 6), (2, 4), (20, 12), (20, 6), (2, 4), (20, 12), (20, 6), (2, 4), (20, 12), (20, 6), (2, 4), (20, 12), (20, 6), (2, 4), (20, 12), (20, 6), (2, 4), (20, 12), (20, 6), (2, 4), (20, 12), (20, 6), (1, 3), (20, 15), (20, 15), (3, 1), (24, 2), (4, 4), (20, 12), (20, 120), (6, 4), (20, 12), (20, 5), (20, 5), (9, 2), (20, 5), (20, 116), (5, 3), (2, 4), (20, 12), (20, 6), (5, 3), (2, 4), (20, 12), (20, 6), (11, 39), (22, 240), (20, 48), (20, 24), (20, 20), (20, 5), (20, 48), (20, 24), (20, 20), (20, 5), (20, 31), (20, 496), (20, 62), (20, 2), (21, 2), (21, 120), (20, 120), (20, 24576), (20, 15), (20, 15)]
def lay (k : Nat) : Nat × Nat := layL.getD k (99, 0)
def tot : Nat → Nat
  | 0 => 0
  | n + 1 => tot n + (lay n).2
theorem tot_mono {a b : Nat} (h : a ≤ b) : tot a ≤ tot b := by
  induction b with
  | zero => rw [Nat.le_zero.mp h]; exact Nat.le_refl _
  | succ b ih =>
    rcases Nat.lt_or_ge b a with q | q
    · rw [show a = b + 1 by omega]; exact Nat.le_refl _
    · exact Nat.le_trans (ih q) (Nat.le_add_right _ _)
def i32 : Value → Int32
  | .int x => x
  | _ => 0
def rfo : Value → Option Nat
  | .ref a => some a
  | _ => none
def ent (Γ : GE) (q : Nat × Nat) (g : Nat → Value) : va_E :=
  if q.1 < 20 then .inr (q.1, (List.range q.2).map g)
  else if q.1 < 23 then .inl (gC Γ (q.1 - 20), q.2, .inl (fun j => i32 (g j)))
  else .inl (gC Γ (q.1 - 20), q.2, .inr (.inr (.inr (.inr (fun j => rfo (g j))))))
def wsG (Γ : GE) (n : Nat) (G : HP) : va_W := (List.range n).map (fun k => (gB Γ + k, ent Γ (lay k) (G k)))
theorem wsG_at {Γ : GE} {n k : Nat} {G : HP} (hk : k < n) : (wsG Γ n G)[k]? = some (gB Γ + k, ent Γ (lay k) (G k)) := by
  simp [wsG, hk]
theorem wsG_len {Γ : GE} {n : Nat} {G : HP} : (wsG Γ n G).length = n := by simp [wsG]
theorem wsG_set {Γ : GE} {n k : Nat} {G G2 : HP} (hk : k < n) (h : ∀ j, j ≠ k → G2 j = G j) : (wsG Γ n G).set k (gB Γ + k, ent Γ (lay k) (G2 k)) = wsG Γ n G2 := by
  apply List.ext_getElem?
  intro i
  by_cases hi : i = k
  · subst hi
    rw [List.getElem?_set_self (by rw [wsG_len]; exact hk), wsG_at hk]
  · rw [List.getElem?_set_ne (Ne.symm hi)]
    by_cases hin : i < n
    · rw [wsG_at hin, wsG_at hin, h i hi]
    · rw [List.getElem?_eq_none (by rw [wsG_len]; omega), List.getElem?_eq_none (by rw [wsG_len]; omega)]
theorem wsG_push {Γ : GE} {n : Nat} {G G2 : HP} (h : ∀ j, j ≠ n → G2 j = G j) : wsG Γ (n + 1) G2 = wsG Γ n G ++ [(gB Γ + n, ent Γ (lay n) (G2 n))] := by
  unfold wsG
  rw [List.range_succ, List.map_append]
  congr 1
  apply List.map_congr_left
  intro k hk
  rw [h k (Nat.ne_of_lt (List.mem_range.mp hk))]
theorem wsG_D {Γ : GE} {n : Nat} {G : HP} : va_D (hA Γ) (wsG Γ n G) := by
  have key : ∀ (i : Nat) (x : Nat × va_E), (wsG Γ n G)[i]? = some x → x.1 = gB Γ + i := by
    intro i x h
    have hi : i < n := by
      have := (List.getElem?_eq_some_iff.mp h).1
      rw [wsG_len] at this; exact this
    rw [wsG_at hi] at h
    cases h; rfl
  refine ⟨fun i j x y hi hj e => ?_, fun k x hk => ?_⟩
  · have h1 := key i x hi
    have h2 := key j y hj
    omega
  · have h1 := key k x hk
    show gB Γ ≤ x.1
    omega
def tysG (Γ : GE) : List (ClassId × FieldType) := [(gC Γ 0, .int), (gC Γ 1, .boolean), (gC Γ 2, .byte), (gC Γ 3, .object "ButtonTin$Cloth"), (gC Γ 4, .object "ButtonTin$Image")]
def snm (i : Nat) : String × Nat := ([("MOST", 5), ("FIRST_ROW", 5), ("NUMBERS", 5), ("LOW", 20), ("HIGH", 20)] : List (String × Nat)).getD i ("", 0)
def svl : Nat → List Int32 := fun i => ([[1, 12, 6, 5, 5], [0, 1, 13, 19, 24], [1, 4, 4, 4, 1], [0, 0, 0, 0, 0, 1, 0, 0, 0, 0, 0, 0, 0, 1, 0, 0, 0, 0, 0, 0], [100, 0, 0, 0, 4, 9, 5, 1, 3, 2, 9, 5, 4, 9, 5, 1, 99, 0, 0, 0]] : List (List Int32)).getD i []
def sval (i j : Nat) : Int32 := (svl i).getD j 0
def nstM : List (String × Nat × MethodName × String) := [("ButtonTin", 9, ⟨"ButtonTin$Reader", "<init>", "()V"⟩, "ButtonTin"), ("ButtonTin", 18, ⟨"ButtonTin$Bench", "<init>", "()V"⟩, "ButtonTin"), ("ButtonTin$Bench", 11, ⟨"ButtonTin$Cloth", "<init>", "()V"⟩, "ButtonTin"), ("ButtonTin$Bench", 20, ⟨"ButtonTin$Telling", "<init>", "()V"⟩, "ButtonTin"), ("ButtonTin$Past", 17, ⟨"ButtonTin$Cloth", "<init>", "()V"⟩, "ButtonTin"), ("ButtonTin", 32, ⟨"ButtonTin$Book", "<init>", "()V"⟩, "ButtonTin"), ("ButtonTin", 39, ⟨"ButtonTin$Draws", "<init>", "()V"⟩, "ButtonTin"), ("ButtonTin", 68, ⟨"ButtonTin$Telling", "<init>", "()V"⟩, "ButtonTin"), ("ButtonTin", 77, ⟨"ButtonTin$Image", "<init>", "()V"⟩, "ButtonTin"), ("ButtonTin$Image", 9, ⟨"ButtonTin$Cloth", "<init>", "()V"⟩, "ButtonTin"), ("ButtonTin$Bench", 95, ⟨"ButtonTin", "has", "(II)Z"⟩, "ButtonTin"), ("ButtonTin$Fitting", 56, ⟨"ButtonTin", "has", "(II)Z"⟩, "ButtonTin"), ("ButtonTin$Matching", 42, ⟨"ButtonTin", "has", "(II)Z"⟩, "ButtonTin")]
def nstF : List (String × Nat × String × String × String × String) := [("ButtonTin$Reader", 46, "ButtonTin", "MOST", "[I", "ButtonTin"), ("ButtonTin$Reader", 49, "ButtonTin", "NUMBERS", "[I", "ButtonTin"), ("ButtonTin$Reader", 64, "ButtonTin", "LOW", "[I", "ButtonTin"), ("ButtonTin$Reader", 67, "ButtonTin", "HIGH", "[I", "ButtonTin"), ("ButtonTin$Telling", 18, "ButtonTin", "FIRST_ROW", "[I", "ButtonTin")]
def Sd (Γ : GE) (U : State) : Prop :=
  va_K (gD Γ) vwCl (tysG Γ) U ∧ (∀ q ∈ nstM, va_Nw (.methodLinkNest q.1 q.2.1 q.2.2.1 q.2.2.2) U) ∧ (∀ q ∈ nstF, va_Nw (.fieldLinkNest q.1 q.2.1 q.2.2.1 q.2.2.2.1 q.2.2.2.2.1 q.2.2.2.2.2) U) ∧ (va_AO "ButtonTin$Cloth" U ∧ va_AO "ButtonTin$Image" U) ∧ gB Γ ≤ U.heap.size ∧
  (∀ i, i < 5 → va_Z "ButtonTin" (snm i).1 "[I" (.ref (gS Γ (i + 1))) (hA Γ) U U.heap ∧ va_T .int (gS Γ (i + 1)) (snm i).2 (fun j => .int (sval i j)) (hA Γ) U U.heap) ∧
  va_T .int (gS Γ 0) (gL Γ) (fun j => .int (gX Γ j)) (hA Γ) U U.heap ∧
  va_Z "java/lang/String" "COMPACT_STRINGS" "Z" (.int 1) (hA Γ) U U.heap ∧
  vk_R "ButtonTin$Reader" 35 "tbrun" (gS Γ 6) U ∧ vk_S 1 [5] [[116, 98, 114, 117, 110]] (fun _ => gS Γ 6) (fun _ => gS Γ 7) (hA Γ) U U.heap
theorem Sd.to {Γ : GE} {s U : State} {locs : List Loc} (h : Sd Γ s) (hW : s.WarmedH U.vm) (hS : va_S (hA Γ) s.heap U.heap locs) : Sd Γ U := by
  obtain ⟨h1, h2, h3, ⟨h4, h5⟩, h6, h7, h8, h9, h10, h11⟩ := h
  have hal := hW.alike
  have kq : ∀ a : Nat, a < s.heap.size → ¬ hA Γ a → U.heap[a]? = s.heap[a]? := hS.2.1
  exact ⟨h1.moved hal, fun q hq => va_Nw.warmM hW (h2 q hq), fun q hq => va_Nw.warmF hW (h3 q hq), ⟨h4.moved hal, h5.moved hal⟩, Nat.le_trans h6 hS.1, fun i hi => ⟨((h7 i hi).1.moved hal).kept kq, ((h7 i hi).2.moved hal).kept kq⟩, (h8.moved hal).kept kq, (h9.moved hal).kept kq, vk_R.warm hW h10, (vk_S.moved hal h11).kept kq⟩
def Rl (Γ : GE) (n : Nat) (G : HP) (H : Heap) : Prop := va_P (gD Γ) vwCl (wsG Γ n G) H
abbrev uu : Value := .retAddr 0
def asn (ls : List Value) : List (Nat × Value) := (List.range ls.length).filterMap (fun i => if ls.getD i uu = uu then none else some (i, ls.getD i uu))
theorem asn_mem {ls : List Value} {q : Nat × Value} : q ∈ asn ls ↔ ls[q.1]? = some q.2 ∧ q.2 ≠ uu := by
  obtain ⟨i, v⟩ := q
  simp only [asn, List.mem_filterMap, List.mem_range]
  constructor
  · rintro ⟨j, hj, h⟩
    by_cases e : ls.getD j uu = uu
    · rw [if_pos e] at h
      cases h
    · rw [if_neg e] at h
      cases h
      refine ⟨?_, e⟩
      simp [List.getD_eq_getElem?_getD, List.getElem?_eq_getElem hj]
  · rintro ⟨h1, h2⟩
    have hi := (List.getElem?_eq_some_iff.mp h1).1
    refine ⟨i, hi, ?_⟩
    have e : ls.getD i uu = v := by simp [List.getD_eq_getElem?_getD, h1]
    rw [e, if_neg h2]
def Lc (A : Array Slot) (nL : Nat) (ls : List Value) : Prop := lv_has A nL (asn ls) ∧ ls.length = nL
theorem Lc.get {A : Array Slot} {nL k : Nat} {ls : List Value} {v : Value} (h : Lc A nL ls) (hk : ls[k]? = some v) (hv : v ≠ uu) : A[k]? = some (.val v) := h.1.2.2 (k, v) (asn_mem.mpr ⟨hk, hv⟩)
theorem Lc.at {A : Array Slot} {nL k : Nat} {ls : List Value} {v : Value} (h : Lc A nL ls) (hk : ls[k]? = some v) (hv : v ≠ uu) : ∃ j : Nat, (asn ls)[j]? = some (k, v) := List.getElem?_of_mem (asn_mem.mpr ⟨hk, hv⟩)
/-- no long stands at the place before -/
def nl : List Value → Nat → Prop
  | ls, 0 => True
  | ls, k + 1 => ∀ v, ls[k]? = some v → v.category = 1
theorem Lc.set1 {A : Array Slot} {nL k : Nat} {ls : List Value} {v : Value} (hn : ls.length = nL) (hk : nl ls k) (h : lv_has A nL ((k, v) :: (asn ls).filter (fun q => !(q.1 == k) && !(q.1 + 1 == k && q.2.category == 2)))) : Lc A nL (ls.set k v) := by
  refine ⟨⟨h.1, h.2.1, fun q hq => ?_⟩, by rw [List.length_set]; exact hn⟩
  obtain ⟨h1, h2⟩ := asn_mem.mp hq
  by_cases e : q.1 = k
  · have hl := (List.getElem?_eq_some_iff.mp h1).1
    rw [List.length_set] at hl
    rw [e, List.getElem?_set_self (by rw [← e]; exact hl)] at h1
    rw [e, ← Option.some.inj h1]
    exact h.2.2 (k, v) List.mem_cons_self
  · rw [List.getElem?_set_ne (Ne.symm e)] at h1
    refine h.2.2 q (List.mem_cons_of_mem _ (List.mem_filter.mpr ⟨asn_mem.mpr ⟨h1, h2⟩, ?_⟩))
    have e2 : ¬ (q.1 + 1 = k ∧ q.2.category = 2) := by
      rintro ⟨a, b⟩
      subst a
      have := hk q.2 h1
      omega
    simp only [Bool.and_eq_true, Bool.not_eq_true', beq_eq_false_iff_ne, ne_eq, Bool.and_eq_false_imp, beq_iff_eq]
    exact ⟨e, fun a b => e2 ⟨a, b⟩⟩
theorem Lc.set2 {A : Array Slot} {nL k : Nat} {ls : List Value} {v : Value} (hn : ls.length = nL) (hk : nl ls k) (h : lv_has A nL ((k, v) :: (asn ls).filter (fun q => !(q.1 == k) && (!(q.1 == k + 1) && !(q.1 + 1 == k && q.2.category == 2))))) : Lc A nL ((ls.set k v).set (k + 1) uu) := by
  refine ⟨⟨h.1, h.2.1, fun q hq => ?_⟩, by rw [List.length_set, List.length_set]; exact hn⟩
  obtain ⟨h1, h2⟩ := asn_mem.mp hq
  by_cases e1 : q.1 = k + 1
  · have hl := (List.getElem?_eq_some_iff.mp h1).1
    rw [List.length_set] at hl
    rw [e1, List.getElem?_set_self (by rw [← e1]; exact hl)] at h1
    exact absurd (Option.some.inj h1).symm h2
  · rw [List.getElem?_set_ne (Ne.symm e1)] at h1
    by_cases e : q.1 = k
    · have hl := (List.getElem?_eq_some_iff.mp h1).1
      rw [List.length_set] at hl
      rw [e, List.getElem?_set_self (by rw [← e]; exact hl)] at h1
      rw [e, ← Option.some.inj h1]
      exact h.2.2 (k, v) List.mem_cons_self
    · rw [List.getElem?_set_ne (Ne.symm e)] at h1
      refine h.2.2 q (List.mem_cons_of_mem _ (List.mem_filter.mpr ⟨asn_mem.mpr ⟨h1, h2⟩, ?_⟩))
      have e2 : ¬ (q.1 + 1 = k ∧ q.2.category = 2) := by
        rintro ⟨a, b⟩
        subst a
        have := hk q.2 h1
        omega
      simp only [Bool.and_eq_true, Bool.not_eq_true', beq_eq_false_iff_ne, ne_eq, Bool.and_eq_false_imp, beq_iff_eq]
      exact ⟨e, e1, fun a b => e2 ⟨a, b⟩⟩
def rmD (d mc ms : Nat) : Room := { frames := d, cells := mc, slots := ms, locals := 38 * d }
def Cx (Γ : GE) (d n0 nE : Nat) (M : MD) (Q : Option Value → HP → Prop) (p : Program) (l : Launch) (e : Env) (R : Room) (s : State) (m : MethodId) (args : Array Value) (below : List Frame) (meth : Method) (c : Code) (Fin : State → Prop) : Prop :=
  p.tables.exec = Jvm.exec ∧ c.code = M.2.1 ∧ c.maxLocals = M.2.2.1 ∧ s.vm.findClass M.1.cls = some m.cls ∧ (∀ w ∈ gw, w.before args s = true) ∧ (Sd Γ s ∧ s.heap.size = gB Γ + n0) ∧ (d ≤ R.frames ∧ 38 * d ≤ R.locals ∧ nE - n0 ≤ R.cells ∧ tot nE - tot n0 ≤ R.slots) ∧ meth.name = M.1.name ∧
  (∀ (pc : Nat) (lsA : Array Slot) (H : Heap) (locs : List Loc) (G : HP), decode M.2.1 pc = .ok (.return_, 1) → M.2.2.2 = none → Rl Γ nE G H → va_S (hA Γ) s.heap H locs → Q none G → W p l e R s m args below meth c H locs (nE - n0) (tot nE - tot n0) Fin (F0 m pc lsA [])) ∧
  (∀ (pc : Nat) (lsA : Array Slot) (H : Heap) (locs : List Loc) (G : HP) (v : Int32) (ty : FieldType), decode M.2.1 pc = .ok (.ireturn, 1) → M.2.2.2 = some ty → narrow ty (.int v) = .int v → Rl Γ nE G H → va_S (hA Γ) s.heap H locs → Q (some (.int v)) G → W p l e R s m args below meth c H locs (nE - n0) (tot nE - tot n0) Fin (F0 m pc lsA [.int v]))
def V (Γ : GE) (d n0 nE : Nat) (M : MD) (Q : Option Value → HP → Prop) (pc : Nat) (ls st : List Value) (n : Nat) (G : HP) : Prop :=
  ∀ (p : Program) (l : Launch) (e : Env) (R : Room) (s : State) (m : MethodId) (args : Array Value) (below : List Frame) (meth : Method) (c : Code) (Fin : State → Prop), Cx Γ d n0 nE M Q p l e R s m args below meth c Fin →
    ∀ (H : Heap) (locs : List Loc) (lsA : Array Slot), Lc lsA M.2.2.1 ls → Rl Γ n G H → va_S (hA Γ) s.heap H locs → W p l e R s m args below meth c H locs (n - n0) (tot n - tot n0) Fin (F0 m pc lsA st)
def Qm (Γ : GE) (nE : Nat) (Q : Option Value → HP → Prop) : Array Value → State → Outcome → State → Prop := fun _ st o t => (∃ (v : Option Value) (G : HP), o = .returned v ∧ Q v G ∧ Rl Γ nE G t.heap) ∧ va_F (hA Γ) st t
def CV (Γ : GE) (d n0 nE : Nat) (M : MD) (av : List Value) (G : HP) (Q : Option Value → HP → Prop) : Prop :=
  ∀ l : Launch, Met l M.1 (wsM M) (rmD d (nE - n0) (tot nE - tot n0)) (va_Pc av (fun U => (Sd Γ U ∧ U.heap.size = gB Γ + n0) ∧ Rl Γ n0 G U.heap)) (Qm Γ nE Q) (nE - n0) (tot nE - tot n0) (hA Γ)
def en (av : List Value) (L : Nat) : List Value := av ++ List.replicate (L - av.length) uu
theorem lv_args_mem : ∀ (av : List Value) (k i : Nat) (v : Value), (∀ w ∈ av, w.category = 1) → av[i]? = some v → (k + i, v) ∈ lv_args k av
  | [], k, i, v, _, h => by simp at h
  | w :: av, k, 0, v, hc, h => by
    simp at h
    subst h
    simp [lv_args]
  | w :: av, k, i + 1, v, hc, h => by
    rw [List.getElem?_cons_succ] at h
    have hw := hc w List.mem_cons_self
    have ih := lv_args_mem av (k + 1) i v (fun z hz => hc z (List.mem_cons_of_mem _ hz)) h
    simp only [lv_args, hw, List.mem_cons]
    right
    rw [if_neg (by omega)]
    rw [show k + (i + 1) = k + 1 + i by omega]
    exact ih
theorem lg_sl_len : ∀ (av : List Value), (∀ w ∈ av, w.category = 1) → (lg_sl av).length = av.length
  | [], _ => rfl
  | w :: av, hc => by
    have hw := hc w List.mem_cons_self
    have ih := lg_sl_len av (fun z hz => hc z (List.mem_cons_of_mem _ hz))
    unfold lg_sl at ih ⊢
    rw [List.flatMap_cons, List.length_append, ih, if_neg (by omega)]
    simp
    omega
theorem Lc.entry {av : List Value} {L : Nat} (hc : ∀ w ∈ av, w.category = 1) (hL : av.length ≤ L) : Lc ((lg_sl av ++ List.replicate (L - (lg_sl av).length) Slot.unset).toArray) L (en av L) := by
  have h := lv_entry av (n := L) (by rw [lg_sl_len av hc]; exact hL)
  refine ⟨⟨h.1, h.2.1, fun q hq => ?_⟩, ?_⟩
  · obtain ⟨h1, h2⟩ := asn_mem.mp hq
    have hm : (0 + q.1, q.2) ∈ lv_args 0 av := by
      refine lv_args_mem av 0 q.1 q.2 hc ?_
      unfold en at h1
      by_cases hl : q.1 < av.length
      · rw [List.getElem?_append_left hl] at h1; exact h1
      · rw [List.getElem?_append_right (by omega)] at h1
        have := List.mem_of_getElem? h1
        rw [List.mem_replicate] at this
        exact absurd this.2 h2
    rw [Nat.zero_add] at hm
    exact h.2.2 q hm
  · unfold en
    rw [List.length_append, List.length_replicate]
    omega
theorem CV.of {Γ : GE} {d n0 nE : Nat} {M : MD} {av : List Value} {G : HP} {Q : Option Value → HP → Prop} (hy : plainName M.1.cls = true) (hc : ∀ w ∈ av, w.category = 1) (hL : av.length ≤ M.2.2.1) (K : V Γ d n0 nE M Q 0 (en av M.2.2.1) [] n0 G) : CV Γ d n0 nE M av G Q := by
  intro l
  refine Met.ofW (cc := M.2.1) (maxL := M.2.2.1) (ret := M.2.2.2) hy rfl ?_
  intro p e s m args below meth c s₁ B hml hv
  obtain ⟨rfl, hSd, hRl⟩ := hv
  have hts := atoms_spec (ws := wsM M) B.pre
  have hlocks := B.notSynchronized
  have C : Cx Γ d n0 nE M Q p l e (headSpec (wsM M) (rmD d (nE - n0) (tot nE - tot n0))).room s m av.toArray below meth c (MQ below (Qm Γ nE Q) av.toArray s (nE - n0) (tot nE - tot n0) (hA Γ)) := by
    refine ⟨B.exec, B.bytes, hml, findClass_of_methodNamed B.named, fun w hw => hts w (List.mem_cons_of_mem _ hw), hSd, ⟨Nat.le_refl _, Nat.le_refl _, Nat.le_refl _, Nat.le_refl _⟩, (name_of_methodNamed B.named B.method).1, ?_, ?_⟩
    · intro pc lsA H locs G' hd hn hR hS hq
      exact W.vret B.exec B.bytes (by rw [B.returns]; exact hn) (fun t ht hW => ⟨⟨none, G', rfl, hq, by rw [ht]; exact hR⟩, hS.F ht⟩) hS.2.2 hd
    · intro pc lsA H locs G' v ty hd hn hnar hR hS hq
      exact W.zret B.exec B.bytes (ty := ty) (by rw [B.returns]; exact hn) hnar (fun t ht hW => ⟨⟨some (.int v), G', rfl, hq, by rw [ht]; exact hR⟩, hS.F ht⟩) hS.2.2 hd
  have h := K p l e _ s m av.toArray below meth c _ C s.heap [] _ (Lc.entry hc hL) hRl va_S.rf
  rw [Nat.sub_self, Nat.sub_self] at h
  rw [lg_entry_eq]
  exact h
