def M_L_law_18 (L : Nat) (xs : Nat → Int) (q : Int → XM → Prop) : Nat → XM → Int → Prop
  | 0, _, _ => False
  | n + 1, x, v3 =>
  (Rg ((L : Int) - 3)) ∧ ((((L : Int) - 3) < v3 → q 1 x) ∧ (¬ (((L : Int) - 3) < v3) → (0 ≤ v3 ∧ v3 < (L : Int)) ∧ (((jand (xs (v3.toNat)) 63) = 0 → (0 ≤ (v3 + 1) ∧ (v3 + 1) < (L : Int)) ∧ M_X10_feed x (xs (((v3 + 1)).toNat))  (fun z6 x7 => (0 ≤ (v3 + 1) ∧ (v3 + 1) < (L : Int)) ∧ M_X11_feed x7 (xs (((v3 + 1)).toNat))  (fun z9 x10 => ((z6 = z9 → (Rg (v3 + 3)) ∧ (M_L_law_18 L xs q n) x10 (v3 + 3)) ∧ (¬ z6 = z9 → q 0 x10))))) ∧ (¬ (jand (xs (v3.toNat)) 63) = 0 → (((jand (xs (v3.toNat)) 63) = 1 → M_X10_tin x  (fun z13 x14 => M_X11_tin x14  (fun z15 x16 => ((z13 = z15 → (Rg (v3 + 3)) ∧ (M_L_law_18 L xs q n) x16 (v3 + 3)) ∧ (¬ z13 = z15 → q 0 x16))))) ∧ (¬ (jand (xs (v3.toNat)) 63) = 1 → (((jand (xs (v3.toNat)) 63) = 2 → M_X10_fault x  (fun z19 => M_X11_fault x  (fun z20 => ((z19 = z20 → (Rg (v3 + 3)) ∧ (M_L_law_18 L xs q n) x (v3 + 3)) ∧ (¬ z19 = z20 → q 0 x))))) ∧ (¬ (jand (xs (v3.toNat)) 63) = 2 → (((jand (xs (v3.toNat)) 63) = 3 → (0 ≤ (v3 + 1) ∧ (v3 + 1) < (L : Int)) ∧ M_X10_told x (xs (((v3 + 1)).toNat))  (fun z24 => (0 ≤ (v3 + 1) ∧ (v3 + 1) < (L : Int)) ∧ M_X11_told x (xs (((v3 + 1)).toNat))  (fun z26 => ((z24 = z26 → (Rg (v3 + 3)) ∧ (M_L_law_18 L xs q n) x (v3 + 3)) ∧ (¬ z24 = z26 → q 0 x))))) ∧ (¬ (jand (xs (v3.toNat)) 63) = 3 → (((jand (xs (v3.toNat)) 63) = 4 → (0 ≤ (v3 + 1) ∧ (v3 + 1) < (L : Int)) ∧ (0 ≤ (v3 + 2) ∧ (v3 + 2) < (L : Int)) ∧ M_X10_button x (xs (((v3 + 1)).toNat)) (xs (((v3 + 2)).toNat))  (fun z31 => (0 ≤ (v3 + 1) ∧ (v3 + 1) < (L : Int)) ∧ (0 ≤ (v3 + 2) ∧ (v3 + 2) < (L : Int)) ∧ M_X11_button x (xs (((v3 + 1)).toNat)) (xs (((v3 + 2)).toNat))  (fun z34 => ((z31 = z34 → (Rg (v3 + 3)) ∧ (M_L_law_18 L xs q n) x (v3 + 3)) ∧ (¬ z31 = z34 → q 0 x))))) ∧ (¬ (jand (xs (v3.toNat)) 63) = 4 → (((jand (xs (v3.toNat)) 63) = 5 → (0 ≤ (v3 + 1) ∧ (v3 + 1) < (L : Int)) ∧ (0 ≤ (v3 + 2) ∧ (v3 + 2) < (L : Int)) ∧ M_X10_rule x (xs (((v3 + 1)).toNat)) (xs (((v3 + 2)).toNat))  (fun z39 => (0 ≤ (v3 + 1) ∧ (v3 + 1) < (L : Int)) ∧ (0 ≤ (v3 + 2) ∧ (v3 + 2) < (L : Int)) ∧ M_X11_rule x (xs (((v3 + 1)).toNat)) (xs (((v3 + 2)).toNat))  (fun z42 => ((z39 = z42 → (Rg (v3 + 3)) ∧ (M_L_law_18 L xs q n) x (v3 + 3)) ∧ (¬ z39 = z42 → q 0 x))))) ∧ (¬ (jand (xs (v3.toNat)) 63) = 5 → (((jand (xs (v3.toNat)) 63) = 6 → (0 ≤ (v3 + 1) ∧ (v3 + 1) < (L : Int)) ∧ (0 ≤ (v3 + 2) ∧ (v3 + 2) < (L : Int)) ∧ M_X10_cause x (xs (((v3 + 1)).toNat)) (xs (((v3 + 2)).toNat))  (fun z47 => (0 ≤ (v3 + 1) ∧ (v3 + 1) < (L : Int)) ∧ (0 ≤ (v3 + 2) ∧ (v3 + 2) < (L : Int)) ∧ M_X11_cause x (xs (((v3 + 1)).toNat)) (xs (((v3 + 2)).toNat))  (fun z50 => ((z47 = z50 → (Rg (v3 + 3)) ∧ (M_L_law_18 L xs q n) x (v3 + 3)) ∧ (¬ z47 = z50 → q 0 x))))) ∧ (¬ (jand (xs (v3.toNat)) 63) = 6 → (((jand (xs (v3.toNat)) 63) = 7 → (0 ≤ (v3 + 1) ∧ (v3 + 1) < (L : Int)) ∧ (0 ≤ (v3 + 2) ∧ (v3 + 2) < (L : Int)) ∧ M_X10_need x (xs (((v3 + 1)).toNat)) (xs (((v3 + 2)).toNat))  (fun z55 => (0 ≤ (v3 + 1) ∧ (v3 + 1) < (L : Int)) ∧ (0 ≤ (v3 + 2) ∧ (v3 + 2) < (L : Int)) ∧ M_X11_need x (xs (((v3 + 1)).toNat)) (xs (((v3 + 2)).toNat))  (fun z58 => ((z55 = z58 → (Rg (v3 + 3)) ∧ (M_L_law_18 L xs q n) x (v3 + 3)) ∧ (¬ z55 = z58 → q 0 x))))) ∧ (¬ (jand (xs (v3.toNat)) 63) = 7 → (((jand (xs (v3.toNat)) 63) = 8 → (0 ≤ (v3 + 1) ∧ (v3 + 1) < (L : Int)) ∧ M_X10_heap x (xs (((v3 + 1)).toNat))  (fun z62 => (0 ≤ (v3 + 1) ∧ (v3 + 1) < (L : Int)) ∧ M_X11_heap x (xs (((v3 + 1)).toNat))  (fun z64 => ((z62 = z64 → (Rg (v3 + 3)) ∧ (M_L_law_18 L xs q n) x (v3 + 3)) ∧ (¬ z62 = z64 → q 0 x))))) ∧ (¬ (jand (xs (v3.toNat)) 63) = 8 → (((jand (xs (v3.toNat)) 63) = 9 → (0 ≤ (v3 + 1) ∧ (v3 + 1) < (L : Int)) ∧ (0 ≤ (v3 + 2) ∧ (v3 + 2) < (L : Int)) ∧ M_X10_put x (xs (((v3 + 1)).toNat)) (xs (((v3 + 2)).toNat))  (fun z69 x70 => (0 ≤ (v3 + 1) ∧ (v3 + 1) < (L : Int)) ∧ (0 ≤ (v3 + 2) ∧ (v3 + 2) < (L : Int)) ∧ M_X11_put x70 (xs (((v3 + 1)).toNat)) (xs (((v3 + 2)).toNat))  (fun z73 x74 => ((z69 = z73 → (Rg (v3 + 3)) ∧ (M_L_law_18 L xs q n) x74 (v3 + 3)) ∧ (¬ z69 = z73 → q 0 x74))))) ∧ (¬ (jand (xs (v3.toNat)) 63) = 9 → (((jand (xs (v3.toNat)) 63) = 10 → (0 ≤ (v3 + 1) ∧ (v3 + 1) < (L : Int)) ∧ M_X10_takeBack x (xs (((v3 + 1)).toNat))  (fun z78 x79 => (0 ≤ (v3 + 1) ∧ (v3 + 1) < (L : Int)) ∧ M_X11_takeBack x79 (xs (((v3 + 1)).toNat))  (fun z81 x82 => ((z78 = z81 → (Rg (v3 + 3)) ∧ (M_L_law_18 L xs q n) x82 (v3 + 3)) ∧ (¬ z78 = z81 → q 0 x82))))) ∧ (¬ (jand (xs (v3.toNat)) 63) = 10 → (((jand (xs (v3.toNat)) 63) = 11 → M_X10_sort x  (fun z85 x86 => M_X11_sort x86  (fun z87 x88 => ((z85 = z87 → (Rg (v3 + 3)) ∧ (M_L_law_18 L xs q n) x88 (v3 + 3)) ∧ (¬ z85 = z87 → q 0 x88))))) ∧ (¬ (jand (xs (v3.toNat)) 63) = 11 → (((jand (xs (v3.toNat)) 63) = 12 → (0 ≤ (v3 + 1) ∧ (v3 + 1) < (L : Int)) ∧ (0 ≤ (v3 + 2) ∧ (v3 + 2) < (L : Int)) ∧ M_X10_sew x (xs (((v3 + 1)).toNat)) (xs (((v3 + 2)).toNat))  (fun z93 x94 => (0 ≤ (v3 + 1) ∧ (v3 + 1) < (L : Int)) ∧ (0 ≤ (v3 + 2) ∧ (v3 + 2) < (L : Int)) ∧ M_X11_sew x94 (xs (((v3 + 1)).toNat)) (xs (((v3 + 2)).toNat))  (fun z97 x98 => ((z93 = z97 → (Rg (v3 + 3)) ∧ (M_L_law_18 L xs q n) x98 (v3 + 3)) ∧ (¬ z93 = z97 → q 0 x98))))) ∧ (¬ (jand (xs (v3.toNat)) 63) = 12 → (((jand (xs (v3.toNat)) 63) = 13 → (0 ≤ (v3 + 1) ∧ (v3 + 1) < (L : Int)) ∧ M_X10_unpick x (xs (((v3 + 1)).toNat))  (fun z102 x103 => (0 ≤ (v3 + 1) ∧ (v3 + 1) < (L : Int)) ∧ M_X11_unpick x103 (xs (((v3 + 1)).toNat))  (fun z105 x106 => ((z102 = z105 → (Rg (v3 + 3)) ∧ (M_L_law_18 L xs q n) x106 (v3 + 3)) ∧ (¬ z102 = z105 → q 0 x106))))) ∧ (¬ (jand (xs (v3.toNat)) 63) = 13 → (((jand (xs (v3.toNat)) 63) = 14 → (0 ≤ (v3 + 1) ∧ (v3 + 1) < (L : Int)) ∧ M_X10_pull x (xs (((v3 + 1)).toNat))  (fun z110 x111 => (0 ≤ (v3 + 1) ∧ (v3 + 1) < (L : Int)) ∧ M_X11_pull x111 (xs (((v3 + 1)).toNat))  (fun z113 x114 => ((z110 = z113 → (Rg (v3 + 3)) ∧ (M_L_law_18 L xs q n) x114 (v3 + 3)) ∧ (¬ z110 = z113 → q 0 x114))))) ∧ (¬ (jand (xs (v3.toNat)) 63) = 14 → (((jand (xs (v3.toNat)) 63) = 15 → (0 ≤ (v3 + 1) ∧ (v3 + 1) < (L : Int)) ∧ M_X10_up x (xs (((v3 + 1)).toNat))  (fun z118 x119 => (0 ≤ (v3 + 1) ∧ (v3 + 1) < (L : Int)) ∧ M_X11_up x119 (xs (((v3 + 1)).toNat))  (fun z121 x122 => ((z118 = z121 → (Rg (v3 + 3)) ∧ (M_L_law_18 L xs q n) x122 (v3 + 3)) ∧ (¬ z118 = z121 → q 0 x122))))) ∧ (¬ (jand (xs (v3.toNat)) 63) = 15 → (((jand (xs (v3.toNat)) 63) = 16 → (0 ≤ (v3 + 1) ∧ (v3 + 1) < (L : Int)) ∧ M_X10_drift x (xs (((v3 + 1)).toNat))  (fun z126 x127 => (0 ≤ (v3 + 1) ∧ (v3 + 1) < (L : Int)) ∧ M_X11_drift x127 (xs (((v3 + 1)).toNat))  (fun z129 x130 => ((z126 = z129 → (Rg (v3 + 3)) ∧ (M_L_law_18 L xs q n) x130 (v3 + 3)) ∧ (¬ z126 = z129 → q 0 x130))))) ∧ (¬ (jand (xs (v3.toNat)) 63) = 16 → (((jand (xs (v3.toNat)) 63) = 17 → M_X10_undo x  (fun z133 x134 => M_X11_undo x134  (fun z135 x136 => ((z133 = z135 → (Rg (v3 + 3)) ∧ (M_L_law_18 L xs q n) x136 (v3 + 3)) ∧ (¬ z133 = z135 → q 0 x136))))) ∧ (¬ (jand (xs (v3.toNat)) 63) = 17 → (((jand (xs (v3.toNat)) 63) = 18 → (0 ≤ (v3 + 1) ∧ (v3 + 1) < (L : Int)) ∧ (0 ≤ (v3 + 2) ∧ (v3 + 2) < (L : Int)) ∧ M_X10_fit x (xs (((v3 + 1)).toNat)) (xs (((v3 + 2)).toNat))  (fun z141 => (0 ≤ (v3 + 1) ∧ (v3 + 1) < (L : Int)) ∧ (0 ≤ (v3 + 2) ∧ (v3 + 2) < (L : Int)) ∧ M_X11_fit x (xs (((v3 + 1)).toNat)) (xs (((v3 + 2)).toNat))  (fun z144 x145 => ((z141 = z144 → (Rg (v3 + 3)) ∧ (M_L_law_18 L xs q n) x145 (v3 + 3)) ∧ (¬ z141 = z144 → q 0 x145))))) ∧ (¬ (jand (xs (v3.toNat)) 63) = 18 → (((jand (xs (v3.toNat)) 63) = 19 → (0 ≤ (v3 + 1) ∧ (v3 + 1) < (L : Int)) ∧ M_X10_tells x (xs (((v3 + 1)).toNat))  (fun z149 x150 => (0 ≤ (v3 + 1) ∧ (v3 + 1) < (L : Int)) ∧ M_X11_tells x150 (xs (((v3 + 1)).toNat))  (fun z152 x153 => ((z149 = z152 → (Rg (v3 + 3)) ∧ (M_L_law_18 L xs q n) x153 (v3 + 3)) ∧ (¬ z149 = z152 → q 0 x153))))) ∧ (¬ (jand (xs (v3.toNat)) 63) = 19 → (((jand (xs (v3.toNat)) 63) = 20 → (0 ≤ (v3 + 1) ∧ (v3 + 1) < (L : Int)) ∧ M_X10_teach x (xs (((v3 + 1)).toNat))  (fun z157 x158 => (0 ≤ (v3 + 1) ∧ (v3 + 1) < (L : Int)) ∧ M_X11_teach x158 (xs (((v3 + 1)).toNat))  (fun z160 x161 => ((z157 = z160 → (Rg (v3 + 3)) ∧ (M_L_law_18 L xs q n) x161 (v3 + 3)) ∧ (¬ z157 = z160 → q 0 x161))))) ∧ (¬ (jand (xs (v3.toNat)) 63) = 20 → (((jand (xs (v3.toNat)) 63) = 21 → (0 ≤ (v3 + 1) ∧ (v3 + 1) < (L : Int)) ∧ M_X10_match x (xs (((v3 + 1)).toNat))  (fun z165 x166 => (0 ≤ (v3 + 1) ∧ (v3 + 1) < (L : Int)) ∧ M_X11_match x166 (xs (((v3 + 1)).toNat))  (fun z168 x169 => ((z165 = z168 → (Rg (v3 + 3)) ∧ (M_L_law_18 L xs q n) x169 (v3 + 3)) ∧ (¬ z165 = z168 → q 0 x169))))) ∧ (¬ (jand (xs (v3.toNat)) 63) = 21 → (((jand (xs (v3.toNat)) 63) = 22 → (0 ≤ (v3 + 1) ∧ (v3 + 1) < (L : Int)) ∧ M_X10_load x (xs (((v3 + 1)).toNat))  (fun z173 => (0 ≤ (v3 + 1) ∧ (v3 + 1) < (L : Int)) ∧ M_X11_load x (xs (((v3 + 1)).toNat))  (fun z175 => ((z173 = z175 → (Rg (v3 + 3)) ∧ (M_L_law_18 L xs q n) x (v3 + 3)) ∧ (¬ z173 = z175 → q 0 x))))) ∧ (¬ (jand (xs (v3.toNat)) 63) = 22 → (((jand (xs (v3.toNat)) 63) = 23 → (0 ≤ (v3 + 1) ∧ (v3 + 1) < (L : Int)) ∧ (0 ≤ (v3 + 2) ∧ (v3 + 2) < (L : Int)) ∧ M_X10_slips x (xs (((v3 + 1)).toNat)) (xs (((v3 + 2)).toNat))  (fun z180 => (0 ≤ (v3 + 1) ∧ (v3 + 1) < (L : Int)) ∧ (0 ≤ (v3 + 2) ∧ (v3 + 2) < (L : Int)) ∧ M_X11_slips x (xs (((v3 + 1)).toNat)) (xs (((v3 + 2)).toNat))  (fun z183 => ((z180 = z183 → (Rg (v3 + 3)) ∧ (M_L_law_18 L xs q n) x (v3 + 3)) ∧ (¬ z180 = z183 → q 0 x))))) ∧ (¬ (jand (xs (v3.toNat)) 63) = 23 → (((jand (xs (v3.toNat)) 63) = 24 → (0 ≤ (v3 + 1) ∧ (v3 + 1) < (L : Int)) ∧ (0 ≤ (v3 + 2) ∧ (v3 + 2) < (L : Int)) ∧ M_X10_undid x (xs (((v3 + 1)).toNat)) (xs (((v3 + 2)).toNat))  (fun z188 => (0 ≤ (v3 + 1) ∧ (v3 + 1) < (L : Int)) ∧ (0 ≤ (v3 + 2) ∧ (v3 + 2) < (L : Int)) ∧ M_X11_undid x (xs (((v3 + 1)).toNat)) (xs (((v3 + 2)).toNat))  (fun z191 => ((z188 = z191 → (Rg (v3 + 3)) ∧ (M_L_law_18 L xs q n) x (v3 + 3)) ∧ (¬ z188 = z191 → q 0 x))))) ∧ (¬ (jand (xs (v3.toNat)) 63) = 24 → (((jand (xs (v3.toNat)) 63) = 25 → (0 ≤ (v3 + 1) ∧ (v3 + 1) < (L : Int)) ∧ M_X10_change x (xs (((v3 + 1)).toNat))  (fun z195 => (0 ≤ (v3 + 1) ∧ (v3 + 1) < (L : Int)) ∧ M_X11_change x (xs (((v3 + 1)).toNat))  (fun z197 => ((z195 = z197 → (Rg (v3 + 3)) ∧ (M_L_law_18 L xs q n) x (v3 + 3)) ∧ (¬ z195 = z197 → q 0 x))))) ∧ (¬ (jand (xs (v3.toNat)) 63) = 25 → (((jand (xs (v3.toNat)) 63) = 26 → (0 ≤ (v3 + 1) ∧ (v3 + 1) < (L : Int)) ∧ M_X10_alike x (xs (((v3 + 1)).toNat))  (fun z201 => (0 ≤ (v3 + 1) ∧ (v3 + 1) < (L : Int)) ∧ M_X11_alike x (xs (((v3 + 1)).toNat))  (fun z203 => ((z201 = z203 → (Rg (v3 + 3)) ∧ (M_L_law_18 L xs q n) x (v3 + 3)) ∧ (¬ z201 = z203 → q 0 x))))) ∧ (¬ (jand (xs (v3.toNat)) 63) = 26 → (((jand (xs (v3.toNat)) 63) = 27 → (0 ≤ (v3 + 1) ∧ (v3 + 1) < (L : Int)) ∧ M_X10_child x (xs (((v3 + 1)).toNat))  (fun z207 => (0 ≤ (v3 + 1) ∧ (v3 + 1) < (L : Int)) ∧ M_X11_child x (xs (((v3 + 1)).toNat))  (fun z209 => ((z207 = z209 → (Rg (v3 + 3)) ∧ (M_L_law_18 L xs q n) x (v3 + 3)) ∧ (¬ z207 = z209 → q 0 x))))) ∧ (¬ (jand (xs (v3.toNat)) 63) = 27 → (((jand (xs (v3.toNat)) 63) = 28 → (0 ≤ (v3 + 1) ∧ (v3 + 1) < (L : Int)) ∧ (0 ≤ (v3 + 2) ∧ (v3 + 2) < (L : Int)) ∧ M_X10_write x (xs (((v3 + 1)).toNat)) (xs (((v3 + 2)).toNat))  (fun z214 x215 => (0 ≤ (v3 + 1) ∧ (v3 + 1) < (L : Int)) ∧ (0 ≤ (v3 + 2) ∧ (v3 + 2) < (L : Int)) ∧ M_X11_write x215 (xs (((v3 + 1)).toNat)) (xs (((v3 + 2)).toNat))  (fun z218 x219 => ((z214 = z218 → (Rg (v3 + 3)) ∧ (M_L_law_18 L xs q n) x219 (v3 + 3)) ∧ (¬ z214 = z218 → q 0 x219))))) ∧ (¬ (jand (xs (v3.toNat)) 63) = 28 → (((jand (xs (v3.toNat)) 63) = 29 → M_X10_tear x  (fun z222 x223 => M_X11_tear x223  (fun z224 x225 => ((z222 = z224 → (Rg (v3 + 3)) ∧ (M_L_law_18 L xs q n) x225 (v3 + 3)) ∧ (¬ z222 = z224 → q 0 x225))))) ∧ (¬ (jand (xs (v3.toNat)) 63) = 29 → (((jand (xs (v3.toNat)) 63) = 30 → M_X10_judge x  (fun z228 => M_X11_judge x  (fun z229 => ((z228 = z229 → (Rg (v3 + 3)) ∧ (M_L_law_18 L xs q n) x (v3 + 3)) ∧ (¬ z228 = z229 → q 0 x))))) ∧ (¬ (jand (xs (v3.toNat)) 63) = 30 → (((jand (xs (v3.toNat)) 63) = 31 → (0 ≤ (v3 + 1) ∧ (v3 + 1) < (L : Int)) ∧ M_X10_seed x (xs (((v3 + 1)).toNat))  (fun z233 x234 => (0 ≤ (v3 + 1) ∧ (v3 + 1) < (L : Int)) ∧ M_X11_seed x234 (xs (((v3 + 1)).toNat))  (fun z236 x237 => ((z233 = z236 → (Rg (v3 + 3)) ∧ (M_L_law_18 L xs q n) x237 (v3 + 3)) ∧ (¬ z233 = z236 → q 0 x237))))) ∧ (¬ (jand (xs (v3.toNat)) 63) = 31 → (((jand (xs (v3.toNat)) 63) = 32 → (0 ≤ (v3 + 1) ∧ (v3 + 1) < (L : Int)) ∧ M_X10_keep x (xs (((v3 + 1)).toNat))  (fun z241 x242 => (0 ≤ (v3 + 1) ∧ (v3 + 1) < (L : Int)) ∧ M_X11_keep x242 (xs (((v3 + 1)).toNat))  (fun z244 x245 => ((z241 = z244 → (Rg (v3 + 3)) ∧ (M_L_law_18 L xs q n) x245 (v3 + 3)) ∧ (¬ z241 = z244 → q 0 x245))))) ∧ (¬ (jand (xs (v3.toNat)) 63) = 32 → (((jand (xs (v3.toNat)) 63) = 33 → (0 ≤ (v3 + 1) ∧ (v3 + 1) < (L : Int)) ∧ M_X10_goBack x (xs (((v3 + 1)).toNat))  (fun z249 x250 => (0 ≤ (v3 + 1) ∧ (v3 + 1) < (L : Int)) ∧ M_X11_goBack x250 (xs (((v3 + 1)).toNat))  (fun z252 x253 => ((z249 = z252 → (Rg (v3 + 3)) ∧ (M_L_law_18 L xs q n) x253 (v3 + 3)) ∧ (¬ z249 = z252 → q 0 x253))))) ∧ (¬ (jand (xs (v3.toNat)) 63) = 33 → (Rg (v3 + 3)) ∧ (M_L_law_18 L xs q n) x (v3 + 3)))))))))))))))))))))))))))))))))))))))))))))))))))))))))))))))))))))))
def M_L_law (L : Nat) (xs : Nat → Int) (x : XM) (q : Int → XM → Prop) : Prop :=
  ∃ m : Nat, M_L_law_18 L xs q m x 0
set_option maxRecDepth 100000 in
theorem w_L_law_18 {Γ : GE} (hL : gL Γ < 2147483648) (hLr : Rg ((gL Γ : Nat) : Int)) {q : Int → XM → Prop} : ∀ (n : Nat) (x : XM) (v3 : Int) , WX x → Rg v3 → M_L_law_18 (gL Γ) (fun j => (gX Γ j).toInt) q n x v3 → V Γ 12 0 NF D_L_law (QE Γ q) 18 [.ref (gS Γ 0), .ref (gB Γ + 0), .ref (gB Γ + 83), vI v3] [] NF (mk Γ x) := by
  intro n
  induction n with
  | zero =>
    intro x v3 hx r3 h
    rw [M_L_law_18.eq_1] at h
    exact h.elim
  | succ n ih =>
    intro x v3 hx r3 h
    rw [M_L_law_18.eq_2] at h
    refine V_iload_3 dL_law_18 ?_
    refine V_aload_0 dL_law_19 ?_
    refine V_xlen dL_law_20 ?_
    refine V_iconst dL_law_21 ?_
    refine V_isub dL_law_22 ?_
    obtain ⟨g1, h⟩ := h
    refine V_icmp_gt 1012 dL_law_23 (by decide) r3 g1 ⟨fun c2 => ?_, fun c2 => ?_⟩
    · have h := h.1 c2
      refine V_iconst dL_law_1012 ?_
      exact V_zreturn dL_law_1013 rfl (Or.inr rfl) ⟨_, _, rfl, hx, rfl, (rgL rfl), h⟩
    · have h := h.2 c2
      refine V_aload_0 dL_law_26 ?_
      refine V_iload_3 dL_law_27 ?_
      obtain ⟨g3, h⟩ := h
      refine V_xald dL_law_28 hL g3.1 g3.2 ?_
      refine V_bipush dL_law_29 (by decide) ?_
      refine V_iand dL_law_31 ?_
      by_cases eo : (jand ((gX Γ (v3.toNat)).toInt) 63) < 0 ∨ 33 < (jand ((gX Γ (v3.toNat)).toInt) 63)
      · skip
        have h := h.2 (neo (v := 0) eo (by decide) (by decide))
        have h := h.2 (neo (v := 1) eo (by decide) (by decide))
        have h := h.2 (neo (v := 2) eo (by decide) (by decide))
        have h := h.2 (neo (v := 3) eo (by decide) (by decide))
        have h := h.2 (neo (v := 4) eo (by decide) (by decide))
        have h := h.2 (neo (v := 5) eo (by decide) (by decide))
        have h := h.2 (neo (v := 6) eo (by decide) (by decide))
        have h := h.2 (neo (v := 7) eo (by decide) (by decide))
        have h := h.2 (neo (v := 8) eo (by decide) (by decide))
        have h := h.2 (neo (v := 9) eo (by decide) (by decide))
        have h := h.2 (neo (v := 10) eo (by decide) (by decide))
        have h := h.2 (neo (v := 11) eo (by decide) (by decide))
        have h := h.2 (neo (v := 12) eo (by decide) (by decide))
        have h := h.2 (neo (v := 13) eo (by decide) (by decide))
        have h := h.2 (neo (v := 14) eo (by decide) (by decide))
        have h := h.2 (neo (v := 15) eo (by decide) (by decide))
        have h := h.2 (neo (v := 16) eo (by decide) (by decide))
        have h := h.2 (neo (v := 17) eo (by decide) (by decide))
        have h := h.2 (neo (v := 18) eo (by decide) (by decide))
        have h := h.2 (neo (v := 19) eo (by decide) (by decide))
        have h := h.2 (neo (v := 20) eo (by decide) (by decide))
        have h := h.2 (neo (v := 21) eo (by decide) (by decide))
        have h := h.2 (neo (v := 22) eo (by decide) (by decide))
        have h := h.2 (neo (v := 23) eo (by decide) (by decide))
        have h := h.2 (neo (v := 24) eo (by decide) (by decide))
        have h := h.2 (neo (v := 25) eo (by decide) (by decide))
        have h := h.2 (neo (v := 26) eo (by decide) (by decide))
        have h := h.2 (neo (v := 27) eo (by decide) (by decide))
        have h := h.2 (neo (v := 28) eo (by decide) (by decide))
        have h := h.2 (neo (v := 29) eo (by decide) (by decide))
        have h := h.2 (neo (v := 30) eo (by decide) (by decide))
        have h := h.2 (neo (v := 31) eo (by decide) (by decide))
        have h := h.2 (neo (v := 32) eo (by decide) (by decide))
        have h := h.2 (neo (v := 33) eo (by decide) (by decide))
        refine V_tableOut 1006 dL_law_32 (Rg.of _) eo (by decide) ?_
        refine V_iinc_3 (a3 := uu) dL_law_1006 rfl ?_
        refine V_goto 18 dL_law_1009 (by decide) ?_
        obtain ⟨g4, h⟩ := h
        exact ih _ _ hx g4 h
      · skip
        have b_0 : 0 ≤ (jand ((gX Γ (v3.toNat)).toInt) 63) := Int.not_lt.mp (fun z => eo (Or.inl z))
        by_cases e_0 : (jand ((gX Γ (v3.toNat)).toInt) 63) = 0
        · have h := h.1 e_0
          refine V_tableIn (off := 152) 184 dL_law_32 (Rg.of _) (fun z => eo (Or.inl z)) (fun z => eo (Or.inr z)) (by rw [e_0]; rfl) (by decide) ?_
          refine V_aload_1 dL_law_184 ?_
          refine V_aload_0 dL_law_185 ?_
          refine V_iload_3 dL_law_186 ?_
          refine V_iconst dL_law_187 ?_
          refine V_iadd dL_law_188 ?_
          obtain ⟨g5, h⟩ := h
          refine V_xald dL_law_189 hL g5.1 g5.2 ?_
          refine V_cVE1 (My := D_X10_feed) dL_law_190 ml_L_13 ce_X10_feed ly_0 (by decide) cl_10 (by decide) (by decide) (Nat.le_refl _) (by decide) (sumL rfl) (w_X10_feed hx (Rg.of _) h) (fun z6 x7 hx7 hz6 h => ?_)
          refine V_aload_2 dL_law_193 ?_
          refine V_aload_0 dL_law_194 ?_
          refine V_iload_3 dL_law_195 ?_
          refine V_iconst dL_law_196 ?_
          refine V_iadd dL_law_197 ?_
          obtain ⟨g8, h⟩ := h
          refine V_xald dL_law_198 hL g8.1 g8.2 ?_
          refine V_cVE1 (My := D_X11_feed) dL_law_199 ml_L_17 ce_X11_feed ly_83 (by decide) cl_11 (by decide) (by decide) (Nat.le_refl _) (by decide) (sumL rfl) (w_X11_feed hx7 (Rg.of _) h) (fun z9 x10 hx10 hz9 h => ?_)
          refine V_icmp_eq 1006 dL_law_202 (by decide) hz6 hz9 ⟨fun c11 => ?_, fun c11 => ?_⟩
          · have h := h.1 c11
            refine V_iinc_3 (a3 := uu) dL_law_1006 rfl ?_
            refine V_goto 18 dL_law_1009 (by decide) ?_
            obtain ⟨g12, h⟩ := h
            exact ih _ _ hx10 g12 h
          · have h := h.2 c11
            refine V_iconst dL_law_205 ?_
            exact V_zreturn dL_law_206 rfl (Or.inl rfl) ⟨_, _, rfl, hx10, rfl, (rgL rfl), h⟩
        have h := h.2 e_0
        have b_1 : 1 ≤ (jand ((gX Γ (v3.toNat)).toInt) 63) := lbs b_0 e_0
        by_cases e_1 : (jand ((gX Γ (v3.toNat)).toInt) 63) = 1
        · have h := h.1 e_1
          refine V_tableIn (off := 175) 207 dL_law_32 (Rg.of _) (fun z => eo (Or.inl z)) (fun z => eo (Or.inr z)) (by rw [e_1]; rfl) (by decide) ?_
          refine V_aload_1 dL_law_207 ?_
          refine V_cVE0 (My := D_X10_tin) dL_law_208 ml_L_18 ce_X10_tin ly_0 (by decide) cl_10 (by decide) (by decide) (Nat.le_refl _) (by decide) (sumL rfl) (w_X10_tin hx h) (fun z13 x14 hx14 hz13 h => ?_)
          refine V_aload_2 dL_law_211 ?_
          refine V_cVE0 (My := D_X11_tin) dL_law_212 ml_L_22 ce_X11_tin ly_83 (by decide) cl_11 (by decide) (by decide) (Nat.le_refl _) (by decide) (sumL rfl) (w_X11_tin hx14 h) (fun z15 x16 hx16 hz15 h => ?_)
          refine V_icmp_eq 1006 dL_law_215 (by decide) hz13 hz15 ⟨fun c17 => ?_, fun c17 => ?_⟩
          · have h := h.1 c17
            refine V_iinc_3 (a3 := uu) dL_law_1006 rfl ?_
            refine V_goto 18 dL_law_1009 (by decide) ?_
            obtain ⟨g18, h⟩ := h
            exact ih _ _ hx16 g18 h
          · have h := h.2 c17
            refine V_iconst dL_law_218 ?_
            exact V_zreturn dL_law_219 rfl (Or.inl rfl) ⟨_, _, rfl, hx16, rfl, (rgL rfl), h⟩
        have h := h.2 e_1
        have b_2 : 2 ≤ (jand ((gX Γ (v3.toNat)).toInt) 63) := lbs b_1 e_1
        by_cases e_2 : (jand ((gX Γ (v3.toNat)).toInt) 63) = 2
        · have h := h.1 e_2
          refine V_tableIn (off := 188) 220 dL_law_32 (Rg.of _) (fun z => eo (Or.inl z)) (fun z => eo (Or.inr z)) (by rw [e_2]; rfl) (by decide) ?_
          refine V_aload_1 dL_law_220 ?_
          refine V_cVI0 (My := D_X10_fault) dL_law_221 ml_L_23 ce_X10_fault ly_0 (by decide) cl_10 (by decide) (by decide) (Nat.le_refl _) (by decide) (sumL rfl) (w_X10_fault hx h) (fun z19 hz19 h => ?_)
          refine V_aload_2 dL_law_224 ?_
          refine V_cVI0 (My := D_X11_fault) dL_law_225 ml_L_26 ce_X11_fault ly_83 (by decide) cl_11 (by decide) (by decide) (Nat.le_refl _) (by decide) (sumL rfl) (w_X11_fault hx h) (fun z20 hz20 h => ?_)
          refine V_icmp_eq 1006 dL_law_228 (by decide) hz19 hz20 ⟨fun c21 => ?_, fun c21 => ?_⟩
          · have h := h.1 c21
            refine V_iinc_3 (a3 := uu) dL_law_1006 rfl ?_
            refine V_goto 18 dL_law_1009 (by decide) ?_
            obtain ⟨g22, h⟩ := h
            exact ih _ _ hx g22 h
          · have h := h.2 c21
            refine V_iconst dL_law_231 ?_
            exact V_zreturn dL_law_232 rfl (Or.inl rfl) ⟨_, _, rfl, hx, rfl, (rgL rfl), h⟩
        have h := h.2 e_2
        have b_3 : 3 ≤ (jand ((gX Γ (v3.toNat)).toInt) 63) := lbs b_2 e_2
        by_cases e_3 : (jand ((gX Γ (v3.toNat)).toInt) 63) = 3
        · have h := h.1 e_3
          refine V_tableIn (off := 201) 233 dL_law_32 (Rg.of _) (fun z => eo (Or.inl z)) (fun z => eo (Or.inr z)) (by rw [e_3]; rfl) (by decide) ?_
          refine V_aload_1 dL_law_233 ?_
          refine V_aload_0 dL_law_234 ?_
          refine V_iload_3 dL_law_235 ?_
          refine V_iconst dL_law_236 ?_
          refine V_iadd dL_law_237 ?_
          obtain ⟨g23, h⟩ := h
          refine V_xald dL_law_238 hL g23.1 g23.2 ?_
          refine V_cVI1 (My := D_X10_told) dL_law_239 ml_L_27 ce_X10_told ly_0 (by decide) cl_10 (by decide) (by decide) (Nat.le_refl _) (by decide) (sumL rfl) (w_X10_told hx (Rg.of _) h) (fun z24 hz24 h => ?_)
          refine V_aload_2 dL_law_242 ?_
          refine V_aload_0 dL_law_243 ?_
          refine V_iload_3 dL_law_244 ?_
          refine V_iconst dL_law_245 ?_
          refine V_iadd dL_law_246 ?_
          obtain ⟨g25, h⟩ := h
          refine V_xald dL_law_247 hL g25.1 g25.2 ?_
          refine V_cVI1 (My := D_X11_told) dL_law_248 ml_L_30 ce_X11_told ly_83 (by decide) cl_11 (by decide) (by decide) (Nat.le_refl _) (by decide) (sumL rfl) (w_X11_told hx (Rg.of _) h) (fun z26 hz26 h => ?_)
          refine V_icmp_eq 1006 dL_law_251 (by decide) hz24 hz26 ⟨fun c27 => ?_, fun c27 => ?_⟩
          · have h := h.1 c27
            refine V_iinc_3 (a3 := uu) dL_law_1006 rfl ?_
            refine V_goto 18 dL_law_1009 (by decide) ?_
            obtain ⟨g28, h⟩ := h
            exact ih _ _ hx g28 h
          · have h := h.2 c27
            refine V_iconst dL_law_254 ?_
            exact V_zreturn dL_law_255 rfl (Or.inl rfl) ⟨_, _, rfl, hx, rfl, (rgL rfl), h⟩
        have h := h.2 e_3
        have b_4 : 4 ≤ (jand ((gX Γ (v3.toNat)).toInt) 63) := lbs b_3 e_3
        by_cases e_4 : (jand ((gX Γ (v3.toNat)).toInt) 63) = 4
        · have h := h.1 e_4
          refine V_tableIn (off := 224) 256 dL_law_32 (Rg.of _) (fun z => eo (Or.inl z)) (fun z => eo (Or.inr z)) (by rw [e_4]; rfl) (by decide) ?_
          refine V_aload_1 dL_law_256 ?_
          refine V_aload_0 dL_law_257 ?_
          refine V_iload_3 dL_law_258 ?_
          refine V_iconst dL_law_259 ?_
          refine V_iadd dL_law_260 ?_
          obtain ⟨g29, h⟩ := h
          refine V_xald dL_law_261 hL g29.1 g29.2 ?_
          refine V_aload_0 dL_law_262 ?_
          refine V_iload_3 dL_law_263 ?_
          refine V_iconst dL_law_264 ?_
          refine V_iadd dL_law_265 ?_
          obtain ⟨g30, h⟩ := h
          refine V_xald dL_law_266 hL g30.1 g30.2 ?_
          refine V_cVI2 (My := D_X10_button) dL_law_267 ml_L_31 ce_X10_button ly_0 (by decide) cl_10 (by decide) (by decide) (Nat.le_refl _) (by decide) (sumL rfl) (w_X10_button hx (Rg.of _) (Rg.of _) h) (fun z31 hz31 h => ?_)
          refine V_aload_2 dL_law_270 ?_
          refine V_aload_0 dL_law_271 ?_
          refine V_iload_3 dL_law_272 ?_
          refine V_iconst dL_law_273 ?_
          refine V_iadd dL_law_274 ?_
          obtain ⟨g32, h⟩ := h
          refine V_xald dL_law_275 hL g32.1 g32.2 ?_
          refine V_aload_0 dL_law_276 ?_
          refine V_iload_3 dL_law_277 ?_
          refine V_iconst dL_law_278 ?_
          refine V_iadd dL_law_279 ?_
          obtain ⟨g33, h⟩ := h
          refine V_xald dL_law_280 hL g33.1 g33.2 ?_
          refine V_cVI2 (My := D_X11_button) dL_law_281 ml_L_35 ce_X11_button ly_83 (by decide) cl_11 (by decide) (by decide) (Nat.le_refl _) (by decide) (sumL rfl) (w_X11_button hx (Rg.of _) (Rg.of _) h) (fun z34 hz34 h => ?_)
          refine V_icmp_eq 1006 dL_law_284 (by decide) hz31 hz34 ⟨fun c35 => ?_, fun c35 => ?_⟩
          · have h := h.1 c35
            refine V_iinc_3 (a3 := uu) dL_law_1006 rfl ?_
            refine V_goto 18 dL_law_1009 (by decide) ?_
            obtain ⟨g36, h⟩ := h
            exact ih _ _ hx g36 h
          · have h := h.2 c35
            refine V_iconst dL_law_287 ?_
            exact V_zreturn dL_law_288 rfl (Or.inl rfl) ⟨_, _, rfl, hx, rfl, (rgL rfl), h⟩
        have h := h.2 e_4
        have b_5 : 5 ≤ (jand ((gX Γ (v3.toNat)).toInt) 63) := lbs b_4 e_4
        by_cases e_5 : (jand ((gX Γ (v3.toNat)).toInt) 63) = 5
        · have h := h.1 e_5
          refine V_tableIn (off := 257) 289 dL_law_32 (Rg.of _) (fun z => eo (Or.inl z)) (fun z => eo (Or.inr z)) (by rw [e_5]; rfl) (by decide) ?_
          refine V_aload_1 dL_law_289 ?_
          refine V_aload_0 dL_law_290 ?_
          refine V_iload_3 dL_law_291 ?_
          refine V_iconst dL_law_292 ?_
          refine V_iadd dL_law_293 ?_
          obtain ⟨g37, h⟩ := h
          refine V_xald dL_law_294 hL g37.1 g37.2 ?_
          refine V_aload_0 dL_law_295 ?_
          refine V_iload_3 dL_law_296 ?_
          refine V_iconst dL_law_297 ?_
          refine V_iadd dL_law_298 ?_
          obtain ⟨g38, h⟩ := h
          refine V_xald dL_law_299 hL g38.1 g38.2 ?_
          refine V_cVI2 (My := D_X10_rule) dL_law_300 ml_L_36 ce_X10_rule ly_0 (by decide) cl_10 (by decide) (by decide) (Nat.le_refl _) (by decide) (sumL rfl) (w_X10_rule hx (Rg.of _) (Rg.of _) h) (fun z39 hz39 h => ?_)
          refine V_aload_2 dL_law_303 ?_
          refine V_aload_0 dL_law_304 ?_
          refine V_iload_3 dL_law_305 ?_
          refine V_iconst dL_law_306 ?_
          refine V_iadd dL_law_307 ?_
          obtain ⟨g40, h⟩ := h
          refine V_xald dL_law_308 hL g40.1 g40.2 ?_
          refine V_aload_0 dL_law_309 ?_
          refine V_iload_3 dL_law_310 ?_
          refine V_iconst dL_law_311 ?_
          refine V_iadd dL_law_312 ?_
          obtain ⟨g41, h⟩ := h
          refine V_xald dL_law_313 hL g41.1 g41.2 ?_
          refine V_cVI2 (My := D_X11_rule) dL_law_314 ml_L_39 ce_X11_rule ly_83 (by decide) cl_11 (by decide) (by decide) (Nat.le_refl _) (by decide) (sumL rfl) (w_X11_rule hx (Rg.of _) (Rg.of _) h) (fun z42 hz42 h => ?_)
          refine V_icmp_eq 1006 dL_law_317 (by decide) hz39 hz42 ⟨fun c43 => ?_, fun c43 => ?_⟩
          · have h := h.1 c43
            refine V_iinc_3 (a3 := uu) dL_law_1006 rfl ?_
            refine V_goto 18 dL_law_1009 (by decide) ?_
            obtain ⟨g44, h⟩ := h
            exact ih _ _ hx g44 h
          · have h := h.2 c43
            refine V_iconst dL_law_320 ?_
            exact V_zreturn dL_law_321 rfl (Or.inl rfl) ⟨_, _, rfl, hx, rfl, (rgL rfl), h⟩
        have h := h.2 e_5
        have b_6 : 6 ≤ (jand ((gX Γ (v3.toNat)).toInt) 63) := lbs b_5 e_5
        by_cases e_6 : (jand ((gX Γ (v3.toNat)).toInt) 63) = 6
        · have h := h.1 e_6
          refine V_tableIn (off := 290) 322 dL_law_32 (Rg.of _) (fun z => eo (Or.inl z)) (fun z => eo (Or.inr z)) (by rw [e_6]; rfl) (by decide) ?_
          refine V_aload_1 dL_law_322 ?_
          refine V_aload_0 dL_law_323 ?_
          refine V_iload_3 dL_law_324 ?_
          refine V_iconst dL_law_325 ?_
          refine V_iadd dL_law_326 ?_
          obtain ⟨g45, h⟩ := h
          refine V_xald dL_law_327 hL g45.1 g45.2 ?_
          refine V_aload_0 dL_law_328 ?_
          refine V_iload_3 dL_law_329 ?_
          refine V_iconst dL_law_330 ?_
          refine V_iadd dL_law_331 ?_
          obtain ⟨g46, h⟩ := h
          refine V_xald dL_law_332 hL g46.1 g46.2 ?_
          refine V_cVI2 (My := D_X10_cause) dL_law_333 ml_L_40 ce_X10_cause ly_0 (by decide) cl_10 (by decide) (by decide) (Nat.le_refl _) (by decide) (sumL rfl) (w_X10_cause hx (Rg.of _) (Rg.of _) h) (fun z47 hz47 h => ?_)
          refine V_aload_2 dL_law_336 ?_
          refine V_aload_0 dL_law_337 ?_
          refine V_iload_3 dL_law_338 ?_
          refine V_iconst dL_law_339 ?_
          refine V_iadd dL_law_340 ?_
          obtain ⟨g48, h⟩ := h
          refine V_xald dL_law_341 hL g48.1 g48.2 ?_
          refine V_aload_0 dL_law_342 ?_
          refine V_iload_3 dL_law_343 ?_
          refine V_iconst dL_law_344 ?_
          refine V_iadd dL_law_345 ?_
          obtain ⟨g49, h⟩ := h
          refine V_xald dL_law_346 hL g49.1 g49.2 ?_
          refine V_cVI2 (My := D_X11_cause) dL_law_347 ml_L_43 ce_X11_cause ly_83 (by decide) cl_11 (by decide) (by decide) (Nat.le_refl _) (by decide) (sumL rfl) (w_X11_cause hx (Rg.of _) (Rg.of _) h) (fun z50 hz50 h => ?_)
          refine V_icmp_eq 1006 dL_law_350 (by decide) hz47 hz50 ⟨fun c51 => ?_, fun c51 => ?_⟩
          · have h := h.1 c51
            refine V_iinc_3 (a3 := uu) dL_law_1006 rfl ?_
            refine V_goto 18 dL_law_1009 (by decide) ?_
            obtain ⟨g52, h⟩ := h
            exact ih _ _ hx g52 h
          · have h := h.2 c51
            refine V_iconst dL_law_353 ?_
            exact V_zreturn dL_law_354 rfl (Or.inl rfl) ⟨_, _, rfl, hx, rfl, (rgL rfl), h⟩
        have h := h.2 e_6
        have b_7 : 7 ≤ (jand ((gX Γ (v3.toNat)).toInt) 63) := lbs b_6 e_6
        by_cases e_7 : (jand ((gX Γ (v3.toNat)).toInt) 63) = 7
        · have h := h.1 e_7
          refine V_tableIn (off := 323) 355 dL_law_32 (Rg.of _) (fun z => eo (Or.inl z)) (fun z => eo (Or.inr z)) (by rw [e_7]; rfl) (by decide) ?_
          refine V_aload_1 dL_law_355 ?_
          refine V_aload_0 dL_law_356 ?_
          refine V_iload_3 dL_law_357 ?_
          refine V_iconst dL_law_358 ?_
          refine V_iadd dL_law_359 ?_
          obtain ⟨g53, h⟩ := h
          refine V_xald dL_law_360 hL g53.1 g53.2 ?_
          refine V_aload_0 dL_law_361 ?_
          refine V_iload_3 dL_law_362 ?_
          refine V_iconst dL_law_363 ?_
          refine V_iadd dL_law_364 ?_
          obtain ⟨g54, h⟩ := h
          refine V_xald dL_law_365 hL g54.1 g54.2 ?_
          refine V_cVI2 (My := D_X10_need) dL_law_366 ml_L_44 ce_X10_need ly_0 (by decide) cl_10 (by decide) (by decide) (Nat.le_refl _) (by decide) (sumL rfl) (w_X10_need hx (Rg.of _) (Rg.of _) h) (fun z55 hz55 h => ?_)
          refine V_aload_2 dL_law_369 ?_
          refine V_aload_0 dL_law_370 ?_
          refine V_iload_3 dL_law_371 ?_
          refine V_iconst dL_law_372 ?_
          refine V_iadd dL_law_373 ?_
          obtain ⟨g56, h⟩ := h
          refine V_xald dL_law_374 hL g56.1 g56.2 ?_
          refine V_aload_0 dL_law_375 ?_
          refine V_iload_3 dL_law_376 ?_
          refine V_iconst dL_law_377 ?_
          refine V_iadd dL_law_378 ?_
          obtain ⟨g57, h⟩ := h
          refine V_xald dL_law_379 hL g57.1 g57.2 ?_
          refine V_cVI2 (My := D_X11_need) dL_law_380 ml_L_47 ce_X11_need ly_83 (by decide) cl_11 (by decide) (by decide) (Nat.le_refl _) (by decide) (sumL rfl) (w_X11_need hx (Rg.of _) (Rg.of _) h) (fun z58 hz58 h => ?_)
          refine V_icmp_eq 1006 dL_law_383 (by decide) hz55 hz58 ⟨fun c59 => ?_, fun c59 => ?_⟩
          · have h := h.1 c59
            refine V_iinc_3 (a3 := uu) dL_law_1006 rfl ?_
            refine V_goto 18 dL_law_1009 (by decide) ?_
            obtain ⟨g60, h⟩ := h
            exact ih _ _ hx g60 h
          · have h := h.2 c59
            refine V_iconst dL_law_386 ?_
            exact V_zreturn dL_law_387 rfl (Or.inl rfl) ⟨_, _, rfl, hx, rfl, (rgL rfl), h⟩
        have h := h.2 e_7
        have b_8 : 8 ≤ (jand ((gX Γ (v3.toNat)).toInt) 63) := lbs b_7 e_7
        by_cases e_8 : (jand ((gX Γ (v3.toNat)).toInt) 63) = 8
        · have h := h.1 e_8
          refine V_tableIn (off := 356) 388 dL_law_32 (Rg.of _) (fun z => eo (Or.inl z)) (fun z => eo (Or.inr z)) (by rw [e_8]; rfl) (by decide) ?_
          refine V_aload_1 dL_law_388 ?_
          refine V_aload_0 dL_law_389 ?_
          refine V_iload_3 dL_law_390 ?_
          refine V_iconst dL_law_391 ?_
          refine V_iadd dL_law_392 ?_
          obtain ⟨g61, h⟩ := h
          refine V_xald dL_law_393 hL g61.1 g61.2 ?_
          refine V_cVI1 (My := D_X10_heap) dL_law_394 ml_L_48 ce_X10_heap ly_0 (by decide) cl_10 (by decide) (by decide) (Nat.le_refl _) (by decide) (sumL rfl) (w_X10_heap hx (Rg.of _) h) (fun z62 hz62 h => ?_)
          refine V_aload_2 dL_law_397 ?_
          refine V_aload_0 dL_law_398 ?_
          refine V_iload_3 dL_law_399 ?_
          refine V_iconst dL_law_400 ?_
          refine V_iadd dL_law_401 ?_
          obtain ⟨g63, h⟩ := h
          refine V_xald dL_law_402 hL g63.1 g63.2 ?_
          refine V_cVI1 (My := D_X11_heap) dL_law_403 ml_L_51 ce_X11_heap ly_83 (by decide) cl_11 (by decide) (by decide) (Nat.le_refl _) (by decide) (sumL rfl) (w_X11_heap hx (Rg.of _) h) (fun z64 hz64 h => ?_)
          refine V_icmp_eq 1006 dL_law_406 (by decide) hz62 hz64 ⟨fun c65 => ?_, fun c65 => ?_⟩
          · have h := h.1 c65
            refine V_iinc_3 (a3 := uu) dL_law_1006 rfl ?_
            refine V_goto 18 dL_law_1009 (by decide) ?_
            obtain ⟨g66, h⟩ := h
            exact ih _ _ hx g66 h
          · have h := h.2 c65
            refine V_iconst dL_law_409 ?_
            exact V_zreturn dL_law_410 rfl (Or.inl rfl) ⟨_, _, rfl, hx, rfl, (rgL rfl), h⟩
        have h := h.2 e_8
        have b_9 : 9 ≤ (jand ((gX Γ (v3.toNat)).toInt) 63) := lbs b_8 e_8
        by_cases e_9 : (jand ((gX Γ (v3.toNat)).toInt) 63) = 9
        · have h := h.1 e_9
          refine V_tableIn (off := 379) 411 dL_law_32 (Rg.of _) (fun z => eo (Or.inl z)) (fun z => eo (Or.inr z)) (by rw [e_9]; rfl) (by decide) ?_
          refine V_aload_1 dL_law_411 ?_
          refine V_aload_0 dL_law_412 ?_
          refine V_iload_3 dL_law_413 ?_
          refine V_iconst dL_law_414 ?_
          refine V_iadd dL_law_415 ?_
          obtain ⟨g67, h⟩ := h
          refine V_xald dL_law_416 hL g67.1 g67.2 ?_
          refine V_aload_0 dL_law_417 ?_
          refine V_iload_3 dL_law_418 ?_
          refine V_iconst dL_law_419 ?_
          refine V_iadd dL_law_420 ?_
          obtain ⟨g68, h⟩ := h
          refine V_xald dL_law_421 hL g68.1 g68.2 ?_
          refine V_cVE2 (My := D_X10_put) dL_law_422 ml_L_52 ce_X10_put ly_0 (by decide) cl_10 (by decide) (by decide) (Nat.le_refl _) (by decide) (sumL rfl) (w_X10_put hx (Rg.of _) (Rg.of _) h) (fun z69 x70 hx70 hz69 h => ?_)
          refine V_aload_2 dL_law_425 ?_
          refine V_aload_0 dL_law_426 ?_
          refine V_iload_3 dL_law_427 ?_
          refine V_iconst dL_law_428 ?_
          refine V_iadd dL_law_429 ?_
          obtain ⟨g71, h⟩ := h
          refine V_xald dL_law_430 hL g71.1 g71.2 ?_
          refine V_aload_0 dL_law_431 ?_
          refine V_iload_3 dL_law_432 ?_
          refine V_iconst dL_law_433 ?_
          refine V_iadd dL_law_434 ?_
          obtain ⟨g72, h⟩ := h
          refine V_xald dL_law_435 hL g72.1 g72.2 ?_
          refine V_cVE2 (My := D_X11_put) dL_law_436 ml_L_55 ce_X11_put ly_83 (by decide) cl_11 (by decide) (by decide) (Nat.le_refl _) (by decide) (sumL rfl) (w_X11_put hx70 (Rg.of _) (Rg.of _) h) (fun z73 x74 hx74 hz73 h => ?_)
          refine V_icmp_eq 1006 dL_law_439 (by decide) hz69 hz73 ⟨fun c75 => ?_, fun c75 => ?_⟩
          · have h := h.1 c75
            refine V_iinc_3 (a3 := uu) dL_law_1006 rfl ?_
            refine V_goto 18 dL_law_1009 (by decide) ?_
            obtain ⟨g76, h⟩ := h
            exact ih _ _ hx74 g76 h
          · have h := h.2 c75
            refine V_iconst dL_law_442 ?_
            exact V_zreturn dL_law_443 rfl (Or.inl rfl) ⟨_, _, rfl, hx74, rfl, (rgL rfl), h⟩
        have h := h.2 e_9
        have b_10 : 10 ≤ (jand ((gX Γ (v3.toNat)).toInt) 63) := lbs b_9 e_9
        by_cases e_10 : (jand ((gX Γ (v3.toNat)).toInt) 63) = 10
        · have h := h.1 e_10
          refine V_tableIn (off := 412) 444 dL_law_32 (Rg.of _) (fun z => eo (Or.inl z)) (fun z => eo (Or.inr z)) (by rw [e_10]; rfl) (by decide) ?_
          refine V_aload_1 dL_law_444 ?_
          refine V_aload_0 dL_law_445 ?_
          refine V_iload_3 dL_law_446 ?_
          refine V_iconst dL_law_447 ?_
          refine V_iadd dL_law_448 ?_
          obtain ⟨g77, h⟩ := h
          refine V_xald dL_law_449 hL g77.1 g77.2 ?_
          refine V_cVE1 (My := D_X10_takeBack) dL_law_450 ml_L_56 ce_X10_takeBack ly_0 (by decide) cl_10 (by decide) (by decide) (Nat.le_refl _) (by decide) (sumL rfl) (w_X10_takeBack hx (Rg.of _) h) (fun z78 x79 hx79 hz78 h => ?_)
          refine V_aload_2 dL_law_453 ?_
          refine V_aload_0 dL_law_454 ?_
          refine V_iload_3 dL_law_455 ?_
          refine V_iconst dL_law_456 ?_
          refine V_iadd dL_law_457 ?_
          obtain ⟨g80, h⟩ := h
          refine V_xald dL_law_458 hL g80.1 g80.2 ?_
          refine V_cVE1 (My := D_X11_takeBack) dL_law_459 ml_L_59 ce_X11_takeBack ly_83 (by decide) cl_11 (by decide) (by decide) (Nat.le_refl _) (by decide) (sumL rfl) (w_X11_takeBack hx79 (Rg.of _) h) (fun z81 x82 hx82 hz81 h => ?_)
          refine V_icmp_eq 1006 dL_law_462 (by decide) hz78 hz81 ⟨fun c83 => ?_, fun c83 => ?_⟩
          · have h := h.1 c83
            refine V_iinc_3 (a3 := uu) dL_law_1006 rfl ?_
            refine V_goto 18 dL_law_1009 (by decide) ?_
            obtain ⟨g84, h⟩ := h
            exact ih _ _ hx82 g84 h
          · have h := h.2 c83
            refine V_iconst dL_law_465 ?_
            exact V_zreturn dL_law_466 rfl (Or.inl rfl) ⟨_, _, rfl, hx82, rfl, (rgL rfl), h⟩
        have h := h.2 e_10
        have b_11 : 11 ≤ (jand ((gX Γ (v3.toNat)).toInt) 63) := lbs b_10 e_10
        by_cases e_11 : (jand ((gX Γ (v3.toNat)).toInt) 63) = 11
        · have h := h.1 e_11
          refine V_tableIn (off := 435) 467 dL_law_32 (Rg.of _) (fun z => eo (Or.inl z)) (fun z => eo (Or.inr z)) (by rw [e_11]; rfl) (by decide) ?_
          refine V_aload_1 dL_law_467 ?_
          refine V_cVE0 (My := D_X10_sort) dL_law_468 ml_L_60 ce_X10_sort ly_0 (by decide) cl_10 (by decide) (by decide) (Nat.le_refl _) (by decide) (sumL rfl) (w_X10_sort hx h) (fun z85 x86 hx86 hz85 h => ?_)
          refine V_aload_2 dL_law_471 ?_
          refine V_cVE0 (My := D_X11_sort) dL_law_472 ml_L_63 ce_X11_sort ly_83 (by decide) cl_11 (by decide) (by decide) (Nat.le_refl _) (by decide) (sumL rfl) (w_X11_sort hx86 h) (fun z87 x88 hx88 hz87 h => ?_)
          refine V_icmp_eq 1006 dL_law_475 (by decide) hz85 hz87 ⟨fun c89 => ?_, fun c89 => ?_⟩
          · have h := h.1 c89
            refine V_iinc_3 (a3 := uu) dL_law_1006 rfl ?_
            refine V_goto 18 dL_law_1009 (by decide) ?_
            obtain ⟨g90, h⟩ := h
            exact ih _ _ hx88 g90 h
          · have h := h.2 c89
            refine V_iconst dL_law_478 ?_
            exact V_zreturn dL_law_479 rfl (Or.inl rfl) ⟨_, _, rfl, hx88, rfl, (rgL rfl), h⟩
        have h := h.2 e_11
        have b_12 : 12 ≤ (jand ((gX Γ (v3.toNat)).toInt) 63) := lbs b_11 e_11
        by_cases e_12 : (jand ((gX Γ (v3.toNat)).toInt) 63) = 12
        · have h := h.1 e_12
          refine V_tableIn (off := 448) 480 dL_law_32 (Rg.of _) (fun z => eo (Or.inl z)) (fun z => eo (Or.inr z)) (by rw [e_12]; rfl) (by decide) ?_
          refine V_aload_1 dL_law_480 ?_
          refine V_aload_0 dL_law_481 ?_
          refine V_iload_3 dL_law_482 ?_
          refine V_iconst dL_law_483 ?_
          refine V_iadd dL_law_484 ?_
          obtain ⟨g91, h⟩ := h
          refine V_xald dL_law_485 hL g91.1 g91.2 ?_
          refine V_aload_0 dL_law_486 ?_
          refine V_iload_3 dL_law_487 ?_
          refine V_iconst dL_law_488 ?_
          refine V_iadd dL_law_489 ?_
          obtain ⟨g92, h⟩ := h
          refine V_xald dL_law_490 hL g92.1 g92.2 ?_
          refine V_cVE2 (My := D_X10_sew) dL_law_491 ml_L_64 ce_X10_sew ly_0 (by decide) cl_10 (by decide) (by decide) (Nat.le_refl _) (by decide) (sumL rfl) (w_X10_sew hx (Rg.of _) (Rg.of _) h) (fun z93 x94 hx94 hz93 h => ?_)
          refine V_aload_2 dL_law_494 ?_
          refine V_aload_0 dL_law_495 ?_
          refine V_iload_3 dL_law_496 ?_
          refine V_iconst dL_law_497 ?_
          refine V_iadd dL_law_498 ?_
          obtain ⟨g95, h⟩ := h
          refine V_xald dL_law_499 hL g95.1 g95.2 ?_
          refine V_aload_0 dL_law_500 ?_
          refine V_iload_3 dL_law_501 ?_
          refine V_iconst dL_law_502 ?_
          refine V_iadd dL_law_503 ?_
          obtain ⟨g96, h⟩ := h
          refine V_xald dL_law_504 hL g96.1 g96.2 ?_
          refine V_cVE2 (My := D_X11_sew) dL_law_505 ml_L_67 ce_X11_sew ly_83 (by decide) cl_11 (by decide) (by decide) (Nat.le_refl _) (by decide) (sumL rfl) (w_X11_sew hx94 (Rg.of _) (Rg.of _) h) (fun z97 x98 hx98 hz97 h => ?_)
          refine V_icmp_eq 1006 dL_law_508 (by decide) hz93 hz97 ⟨fun c99 => ?_, fun c99 => ?_⟩
          · have h := h.1 c99
            refine V_iinc_3 (a3 := uu) dL_law_1006 rfl ?_
            refine V_goto 18 dL_law_1009 (by decide) ?_
            obtain ⟨g100, h⟩ := h
            exact ih _ _ hx98 g100 h
          · have h := h.2 c99
            refine V_iconst dL_law_511 ?_
            exact V_zreturn dL_law_512 rfl (Or.inl rfl) ⟨_, _, rfl, hx98, rfl, (rgL rfl), h⟩
        have h := h.2 e_12
        have b_13 : 13 ≤ (jand ((gX Γ (v3.toNat)).toInt) 63) := lbs b_12 e_12
        by_cases e_13 : (jand ((gX Γ (v3.toNat)).toInt) 63) = 13
        · have h := h.1 e_13
          refine V_tableIn (off := 481) 513 dL_law_32 (Rg.of _) (fun z => eo (Or.inl z)) (fun z => eo (Or.inr z)) (by rw [e_13]; rfl) (by decide) ?_
          refine V_aload_1 dL_law_513 ?_
          refine V_aload_0 dL_law_514 ?_
          refine V_iload_3 dL_law_515 ?_
          refine V_iconst dL_law_516 ?_
          refine V_iadd dL_law_517 ?_
          obtain ⟨g101, h⟩ := h
          refine V_xald dL_law_518 hL g101.1 g101.2 ?_
          refine V_cVE1 (My := D_X10_unpick) dL_law_519 ml_L_68 ce_X10_unpick ly_0 (by decide) cl_10 (by decide) (by decide) (Nat.le_refl _) (by decide) (sumL rfl) (w_X10_unpick hx (Rg.of _) h) (fun z102 x103 hx103 hz102 h => ?_)
          refine V_aload_2 dL_law_522 ?_
          refine V_aload_0 dL_law_523 ?_
          refine V_iload_3 dL_law_524 ?_
          refine V_iconst dL_law_525 ?_
          refine V_iadd dL_law_526 ?_
          obtain ⟨g104, h⟩ := h
          refine V_xald dL_law_527 hL g104.1 g104.2 ?_
          refine V_cVE1 (My := D_X11_unpick) dL_law_528 ml_L_71 ce_X11_unpick ly_83 (by decide) cl_11 (by decide) (by decide) (Nat.le_refl _) (by decide) (sumL rfl) (w_X11_unpick hx103 (Rg.of _) h) (fun z105 x106 hx106 hz105 h => ?_)
          refine V_icmp_eq 1006 dL_law_531 (by decide) hz102 hz105 ⟨fun c107 => ?_, fun c107 => ?_⟩
          · have h := h.1 c107
            refine V_iinc_3 (a3 := uu) dL_law_1006 rfl ?_
            refine V_goto 18 dL_law_1009 (by decide) ?_
            obtain ⟨g108, h⟩ := h
            exact ih _ _ hx106 g108 h
          · have h := h.2 c107
            refine V_iconst dL_law_534 ?_
            exact V_zreturn dL_law_535 rfl (Or.inl rfl) ⟨_, _, rfl, hx106, rfl, (rgL rfl), h⟩
        have h := h.2 e_13
        have b_14 : 14 ≤ (jand ((gX Γ (v3.toNat)).toInt) 63) := lbs b_13 e_13
        by_cases e_14 : (jand ((gX Γ (v3.toNat)).toInt) 63) = 14
        · have h := h.1 e_14
          refine V_tableIn (off := 504) 536 dL_law_32 (Rg.of _) (fun z => eo (Or.inl z)) (fun z => eo (Or.inr z)) (by rw [e_14]; rfl) (by decide) ?_
          refine V_aload_1 dL_law_536 ?_
          refine V_aload_0 dL_law_537 ?_
          refine V_iload_3 dL_law_538 ?_
          refine V_iconst dL_law_539 ?_
          refine V_iadd dL_law_540 ?_
          obtain ⟨g109, h⟩ := h
          refine V_xald dL_law_541 hL g109.1 g109.2 ?_
          refine V_cVE1 (My := D_X10_pull) dL_law_542 ml_L_72 ce_X10_pull ly_0 (by decide) cl_10 (by decide) (by decide) (Nat.le_refl _) (by decide) (sumL rfl) (w_X10_pull hx (Rg.of _) h) (fun z110 x111 hx111 hz110 h => ?_)
          refine V_aload_2 dL_law_545 ?_
          refine V_aload_0 dL_law_546 ?_
          refine V_iload_3 dL_law_547 ?_
          refine V_iconst dL_law_548 ?_
          refine V_iadd dL_law_549 ?_
          obtain ⟨g112, h⟩ := h
          refine V_xald dL_law_550 hL g112.1 g112.2 ?_
          refine V_cVE1 (My := D_X11_pull) dL_law_551 ml_L_75 ce_X11_pull ly_83 (by decide) cl_11 (by decide) (by decide) (Nat.le_refl _) (by decide) (sumL rfl) (w_X11_pull hx111 (Rg.of _) h) (fun z113 x114 hx114 hz113 h => ?_)
          refine V_icmp_eq 1006 dL_law_554 (by decide) hz110 hz113 ⟨fun c115 => ?_, fun c115 => ?_⟩
          · have h := h.1 c115
            refine V_iinc_3 (a3 := uu) dL_law_1006 rfl ?_
            refine V_goto 18 dL_law_1009 (by decide) ?_
            obtain ⟨g116, h⟩ := h
            exact ih _ _ hx114 g116 h
          · have h := h.2 c115
            refine V_iconst dL_law_557 ?_
            exact V_zreturn dL_law_558 rfl (Or.inl rfl) ⟨_, _, rfl, hx114, rfl, (rgL rfl), h⟩
        have h := h.2 e_14
        have b_15 : 15 ≤ (jand ((gX Γ (v3.toNat)).toInt) 63) := lbs b_14 e_14
        by_cases e_15 : (jand ((gX Γ (v3.toNat)).toInt) 63) = 15
        · have h := h.1 e_15
          refine V_tableIn (off := 527) 559 dL_law_32 (Rg.of _) (fun z => eo (Or.inl z)) (fun z => eo (Or.inr z)) (by rw [e_15]; rfl) (by decide) ?_
          refine V_aload_1 dL_law_559 ?_
          refine V_aload_0 dL_law_560 ?_
          refine V_iload_3 dL_law_561 ?_
          refine V_iconst dL_law_562 ?_
          refine V_iadd dL_law_563 ?_
          obtain ⟨g117, h⟩ := h
          refine V_xald dL_law_564 hL g117.1 g117.2 ?_
          refine V_cVE1 (My := D_X10_up) dL_law_565 ml_L_76 ce_X10_up ly_0 (by decide) cl_10 (by decide) (by decide) (Nat.le_refl _) (by decide) (sumL rfl) (w_X10_up hx (Rg.of _) h) (fun z118 x119 hx119 hz118 h => ?_)
          refine V_aload_2 dL_law_568 ?_
          refine V_aload_0 dL_law_569 ?_
          refine V_iload_3 dL_law_570 ?_
          refine V_iconst dL_law_571 ?_
          refine V_iadd dL_law_572 ?_
          obtain ⟨g120, h⟩ := h
          refine V_xald dL_law_573 hL g120.1 g120.2 ?_
          refine V_cVE1 (My := D_X11_up) dL_law_574 ml_L_79 ce_X11_up ly_83 (by decide) cl_11 (by decide) (by decide) (Nat.le_refl _) (by decide) (sumL rfl) (w_X11_up hx119 (Rg.of _) h) (fun z121 x122 hx122 hz121 h => ?_)
          refine V_icmp_eq 1006 dL_law_577 (by decide) hz118 hz121 ⟨fun c123 => ?_, fun c123 => ?_⟩
          · have h := h.1 c123
            refine V_iinc_3 (a3 := uu) dL_law_1006 rfl ?_
            refine V_goto 18 dL_law_1009 (by decide) ?_
            obtain ⟨g124, h⟩ := h
            exact ih _ _ hx122 g124 h
          · have h := h.2 c123
            refine V_iconst dL_law_580 ?_
            exact V_zreturn dL_law_581 rfl (Or.inl rfl) ⟨_, _, rfl, hx122, rfl, (rgL rfl), h⟩
        have h := h.2 e_15
        have b_16 : 16 ≤ (jand ((gX Γ (v3.toNat)).toInt) 63) := lbs b_15 e_15
        by_cases e_16 : (jand ((gX Γ (v3.toNat)).toInt) 63) = 16
        · have h := h.1 e_16
          refine V_tableIn (off := 550) 582 dL_law_32 (Rg.of _) (fun z => eo (Or.inl z)) (fun z => eo (Or.inr z)) (by rw [e_16]; rfl) (by decide) ?_
          refine V_aload_1 dL_law_582 ?_
          refine V_aload_0 dL_law_583 ?_
          refine V_iload_3 dL_law_584 ?_
          refine V_iconst dL_law_585 ?_
          refine V_iadd dL_law_586 ?_
          obtain ⟨g125, h⟩ := h
          refine V_xald dL_law_587 hL g125.1 g125.2 ?_
          refine V_cVE1 (My := D_X10_drift) dL_law_588 ml_L_80 ce_X10_drift ly_0 (by decide) cl_10 (by decide) (by decide) (Nat.le_refl _) (by decide) (sumL rfl) (w_X10_drift hx (Rg.of _) h) (fun z126 x127 hx127 hz126 h => ?_)
          refine V_aload_2 dL_law_591 ?_
          refine V_aload_0 dL_law_592 ?_
          refine V_iload_3 dL_law_593 ?_
          refine V_iconst dL_law_594 ?_
          refine V_iadd dL_law_595 ?_
          obtain ⟨g128, h⟩ := h
          refine V_xald dL_law_596 hL g128.1 g128.2 ?_
          refine V_cVE1 (My := D_X11_drift) dL_law_597 ml_L_83 ce_X11_drift ly_83 (by decide) cl_11 (by decide) (by decide) (Nat.le_refl _) (by decide) (sumL rfl) (w_X11_drift hx127 (Rg.of _) h) (fun z129 x130 hx130 hz129 h => ?_)
          refine V_icmp_eq 1006 dL_law_600 (by decide) hz126 hz129 ⟨fun c131 => ?_, fun c131 => ?_⟩
          · have h := h.1 c131
            refine V_iinc_3 (a3 := uu) dL_law_1006 rfl ?_
            refine V_goto 18 dL_law_1009 (by decide) ?_
            obtain ⟨g132, h⟩ := h
            exact ih _ _ hx130 g132 h
          · have h := h.2 c131
            refine V_iconst dL_law_603 ?_
            exact V_zreturn dL_law_604 rfl (Or.inl rfl) ⟨_, _, rfl, hx130, rfl, (rgL rfl), h⟩
        have h := h.2 e_16
        have b_17 : 17 ≤ (jand ((gX Γ (v3.toNat)).toInt) 63) := lbs b_16 e_16
        by_cases e_17 : (jand ((gX Γ (v3.toNat)).toInt) 63) = 17
        · have h := h.1 e_17
          refine V_tableIn (off := 573) 605 dL_law_32 (Rg.of _) (fun z => eo (Or.inl z)) (fun z => eo (Or.inr z)) (by rw [e_17]; rfl) (by decide) ?_
          refine V_aload_1 dL_law_605 ?_
          refine V_cVE0 (My := D_X10_undo) dL_law_606 ml_L_84 ce_X10_undo ly_0 (by decide) cl_10 (by decide) (by decide) (Nat.le_refl _) (by decide) (sumL rfl) (w_X10_undo hx h) (fun z133 x134 hx134 hz133 h => ?_)
          refine V_aload_2 dL_law_609 ?_
          refine V_cVE0 (My := D_X11_undo) dL_law_610 ml_L_87 ce_X11_undo ly_83 (by decide) cl_11 (by decide) (by decide) (Nat.le_refl _) (by decide) (sumL rfl) (w_X11_undo hx134 h) (fun z135 x136 hx136 hz135 h => ?_)
          refine V_icmp_eq 1006 dL_law_613 (by decide) hz133 hz135 ⟨fun c137 => ?_, fun c137 => ?_⟩
          · have h := h.1 c137
            refine V_iinc_3 (a3 := uu) dL_law_1006 rfl ?_
            refine V_goto 18 dL_law_1009 (by decide) ?_
            obtain ⟨g138, h⟩ := h
            exact ih _ _ hx136 g138 h
          · have h := h.2 c137
            refine V_iconst dL_law_616 ?_
            exact V_zreturn dL_law_617 rfl (Or.inl rfl) ⟨_, _, rfl, hx136, rfl, (rgL rfl), h⟩
        have h := h.2 e_17
        have b_18 : 18 ≤ (jand ((gX Γ (v3.toNat)).toInt) 63) := lbs b_17 e_17
        by_cases e_18 : (jand ((gX Γ (v3.toNat)).toInt) 63) = 18
        · have h := h.1 e_18
          refine V_tableIn (off := 586) 618 dL_law_32 (Rg.of _) (fun z => eo (Or.inl z)) (fun z => eo (Or.inr z)) (by rw [e_18]; rfl) (by decide) ?_
          refine V_aload_1 dL_law_618 ?_
          refine V_aload_0 dL_law_619 ?_
          refine V_iload_3 dL_law_620 ?_
          refine V_iconst dL_law_621 ?_
          refine V_iadd dL_law_622 ?_
          obtain ⟨g139, h⟩ := h
          refine V_xald dL_law_623 hL g139.1 g139.2 ?_
          refine V_aload_0 dL_law_624 ?_
          refine V_iload_3 dL_law_625 ?_
          refine V_iconst dL_law_626 ?_
          refine V_iadd dL_law_627 ?_
          obtain ⟨g140, h⟩ := h
          refine V_xald dL_law_628 hL g140.1 g140.2 ?_
          refine V_cVI2 (My := D_X10_fit) dL_law_629 ml_L_88 ce_X10_fit ly_0 (by decide) cl_10 (by decide) (by decide) (Nat.le_refl _) (by decide) (sumL rfl) (w_X10_fit hx (Rg.of _) (Rg.of _) h) (fun z141 hz141 h => ?_)
          refine V_aload_2 dL_law_632 ?_
          refine V_aload_0 dL_law_633 ?_
          refine V_iload_3 dL_law_634 ?_
          refine V_iconst dL_law_635 ?_
          refine V_iadd dL_law_636 ?_
          obtain ⟨g142, h⟩ := h
          refine V_xald dL_law_637 hL g142.1 g142.2 ?_
          refine V_aload_0 dL_law_638 ?_
          refine V_iload_3 dL_law_639 ?_
          refine V_iconst dL_law_640 ?_
          refine V_iadd dL_law_641 ?_
          obtain ⟨g143, h⟩ := h
          refine V_xald dL_law_642 hL g143.1 g143.2 ?_
          refine V_cVE2 (My := D_X11_fit) dL_law_643 ml_L_91 ce_X11_fit ly_83 (by decide) cl_11 (by decide) (by decide) (Nat.le_refl _) (by decide) (sumL rfl) (w_X11_fit hx (Rg.of _) (Rg.of _) h) (fun z144 x145 hx145 hz144 h => ?_)
          refine V_icmp_eq 1006 dL_law_646 (by decide) hz141 hz144 ⟨fun c146 => ?_, fun c146 => ?_⟩
          · have h := h.1 c146
            refine V_iinc_3 (a3 := uu) dL_law_1006 rfl ?_
            refine V_goto 18 dL_law_1009 (by decide) ?_
            obtain ⟨g147, h⟩ := h
            exact ih _ _ hx145 g147 h
          · have h := h.2 c146
            refine V_iconst dL_law_649 ?_
            exact V_zreturn dL_law_650 rfl (Or.inl rfl) ⟨_, _, rfl, hx145, rfl, (rgL rfl), h⟩
        have h := h.2 e_18
        have b_19 : 19 ≤ (jand ((gX Γ (v3.toNat)).toInt) 63) := lbs b_18 e_18
        by_cases e_19 : (jand ((gX Γ (v3.toNat)).toInt) 63) = 19
        · have h := h.1 e_19
          refine V_tableIn (off := 619) 651 dL_law_32 (Rg.of _) (fun z => eo (Or.inl z)) (fun z => eo (Or.inr z)) (by rw [e_19]; rfl) (by decide) ?_
          refine V_aload_1 dL_law_651 ?_
          refine V_aload_0 dL_law_652 ?_
          refine V_iload_3 dL_law_653 ?_
          refine V_iconst dL_law_654 ?_
          refine V_iadd dL_law_655 ?_
          obtain ⟨g148, h⟩ := h
          refine V_xald dL_law_656 hL g148.1 g148.2 ?_
          refine V_cVE1 (My := D_X10_tells) dL_law_657 ml_L_92 ce_X10_tells ly_0 (by decide) cl_10 (by decide) (by decide) (Nat.le_refl _) (by decide) (sumL rfl) (w_X10_tells hx (Rg.of _) h) (fun z149 x150 hx150 hz149 h => ?_)
          refine V_aload_2 dL_law_660 ?_
          refine V_aload_0 dL_law_661 ?_
          refine V_iload_3 dL_law_662 ?_
          refine V_iconst dL_law_663 ?_
          refine V_iadd dL_law_664 ?_
          obtain ⟨g151, h⟩ := h
          refine V_xald dL_law_665 hL g151.1 g151.2 ?_
          refine V_cVE1 (My := D_X11_tells) dL_law_666 ml_L_95 ce_X11_tells ly_83 (by decide) cl_11 (by decide) (by decide) (Nat.le_refl _) (by decide) (sumL rfl) (w_X11_tells hx150 (Rg.of _) h) (fun z152 x153 hx153 hz152 h => ?_)
          refine V_icmp_eq 1006 dL_law_669 (by decide) hz149 hz152 ⟨fun c154 => ?_, fun c154 => ?_⟩
          · have h := h.1 c154
            refine V_iinc_3 (a3 := uu) dL_law_1006 rfl ?_
            refine V_goto 18 dL_law_1009 (by decide) ?_
            obtain ⟨g155, h⟩ := h
            exact ih _ _ hx153 g155 h
          · have h := h.2 c154
            refine V_iconst dL_law_672 ?_
            exact V_zreturn dL_law_673 rfl (Or.inl rfl) ⟨_, _, rfl, hx153, rfl, (rgL rfl), h⟩
        have h := h.2 e_19
        have b_20 : 20 ≤ (jand ((gX Γ (v3.toNat)).toInt) 63) := lbs b_19 e_19
        by_cases e_20 : (jand ((gX Γ (v3.toNat)).toInt) 63) = 20
        · have h := h.1 e_20
          refine V_tableIn (off := 642) 674 dL_law_32 (Rg.of _) (fun z => eo (Or.inl z)) (fun z => eo (Or.inr z)) (by rw [e_20]; rfl) (by decide) ?_
          refine V_aload_1 dL_law_674 ?_
          refine V_aload_0 dL_law_675 ?_
          refine V_iload_3 dL_law_676 ?_
          refine V_iconst dL_law_677 ?_
          refine V_iadd dL_law_678 ?_
          obtain ⟨g156, h⟩ := h
          refine V_xald dL_law_679 hL g156.1 g156.2 ?_
          refine V_cVE1 (My := D_X10_teach) dL_law_680 ml_L_96 ce_X10_teach ly_0 (by decide) cl_10 (by decide) (by decide) (Nat.le_refl _) (by decide) (sumL rfl) (w_X10_teach hx (Rg.of _) h) (fun z157 x158 hx158 hz157 h => ?_)
          refine V_aload_2 dL_law_683 ?_
          refine V_aload_0 dL_law_684 ?_
          refine V_iload_3 dL_law_685 ?_
          refine V_iconst dL_law_686 ?_
          refine V_iadd dL_law_687 ?_
          obtain ⟨g159, h⟩ := h
          refine V_xald dL_law_688 hL g159.1 g159.2 ?_
          refine V_cVE1 (My := D_X11_teach) dL_law_689 ml_L_99 ce_X11_teach ly_83 (by decide) cl_11 (by decide) (by decide) (Nat.le_refl _) (by decide) (sumL rfl) (w_X11_teach hx158 (Rg.of _) h) (fun z160 x161 hx161 hz160 h => ?_)
          refine V_icmp_eq 1006 dL_law_692 (by decide) hz157 hz160 ⟨fun c162 => ?_, fun c162 => ?_⟩
          · have h := h.1 c162
            refine V_iinc_3 (a3 := uu) dL_law_1006 rfl ?_
            refine V_goto 18 dL_law_1009 (by decide) ?_
            obtain ⟨g163, h⟩ := h
            exact ih _ _ hx161 g163 h
          · have h := h.2 c162
            refine V_iconst dL_law_695 ?_
            exact V_zreturn dL_law_696 rfl (Or.inl rfl) ⟨_, _, rfl, hx161, rfl, (rgL rfl), h⟩
        have h := h.2 e_20
        have b_21 : 21 ≤ (jand ((gX Γ (v3.toNat)).toInt) 63) := lbs b_20 e_20
        by_cases e_21 : (jand ((gX Γ (v3.toNat)).toInt) 63) = 21
        · have h := h.1 e_21
          refine V_tableIn (off := 665) 697 dL_law_32 (Rg.of _) (fun z => eo (Or.inl z)) (fun z => eo (Or.inr z)) (by rw [e_21]; rfl) (by decide) ?_
          refine V_aload_1 dL_law_697 ?_
          refine V_aload_0 dL_law_698 ?_
          refine V_iload_3 dL_law_699 ?_
          refine V_iconst dL_law_700 ?_
          refine V_iadd dL_law_701 ?_
          obtain ⟨g164, h⟩ := h
          refine V_xald dL_law_702 hL g164.1 g164.2 ?_
          refine V_cVE1 (My := D_X10_match) dL_law_703 ml_L_100 ce_X10_match ly_0 (by decide) cl_10 (by decide) (by decide) (Nat.le_refl _) (by decide) (sumL rfl) (w_X10_match hx (Rg.of _) h) (fun z165 x166 hx166 hz165 h => ?_)
          refine V_aload_2 dL_law_706 ?_
          refine V_aload_0 dL_law_707 ?_
          refine V_iload_3 dL_law_708 ?_
          refine V_iconst dL_law_709 ?_
          refine V_iadd dL_law_710 ?_
          obtain ⟨g167, h⟩ := h
          refine V_xald dL_law_711 hL g167.1 g167.2 ?_
          refine V_cVE1 (My := D_X11_match) dL_law_712 ml_L_103 ce_X11_match ly_83 (by decide) cl_11 (by decide) (by decide) (Nat.le_refl _) (by decide) (sumL rfl) (w_X11_match hx166 (Rg.of _) h) (fun z168 x169 hx169 hz168 h => ?_)
          refine V_icmp_eq 1006 dL_law_715 (by decide) hz165 hz168 ⟨fun c170 => ?_, fun c170 => ?_⟩
          · have h := h.1 c170
            refine V_iinc_3 (a3 := uu) dL_law_1006 rfl ?_
            refine V_goto 18 dL_law_1009 (by decide) ?_
            obtain ⟨g171, h⟩ := h
            exact ih _ _ hx169 g171 h
          · have h := h.2 c170
            refine V_iconst dL_law_718 ?_
            exact V_zreturn dL_law_719 rfl (Or.inl rfl) ⟨_, _, rfl, hx169, rfl, (rgL rfl), h⟩
        have h := h.2 e_21
        have b_22 : 22 ≤ (jand ((gX Γ (v3.toNat)).toInt) 63) := lbs b_21 e_21
        by_cases e_22 : (jand ((gX Γ (v3.toNat)).toInt) 63) = 22
        · have h := h.1 e_22
          refine V_tableIn (off := 688) 720 dL_law_32 (Rg.of _) (fun z => eo (Or.inl z)) (fun z => eo (Or.inr z)) (by rw [e_22]; rfl) (by decide) ?_
          refine V_aload_1 dL_law_720 ?_
          refine V_aload_0 dL_law_721 ?_
          refine V_iload_3 dL_law_722 ?_
          refine V_iconst dL_law_723 ?_
          refine V_iadd dL_law_724 ?_
          obtain ⟨g172, h⟩ := h
          refine V_xald dL_law_725 hL g172.1 g172.2 ?_
          refine V_cVI1 (My := D_X10_load) dL_law_726 ml_L_104 ce_X10_load ly_0 (by decide) cl_10 (by decide) (by decide) (Nat.le_refl _) (by decide) (sumL rfl) (w_X10_load hx (Rg.of _) h) (fun z173 hz173 h => ?_)
          refine V_aload_2 dL_law_729 ?_
          refine V_aload_0 dL_law_730 ?_
          refine V_iload_3 dL_law_731 ?_
          refine V_iconst dL_law_732 ?_
          refine V_iadd dL_law_733 ?_
          obtain ⟨g174, h⟩ := h
          refine V_xald dL_law_734 hL g174.1 g174.2 ?_
          refine V_cVI1 (My := D_X11_load) dL_law_735 ml_L_107 ce_X11_load ly_83 (by decide) cl_11 (by decide) (by decide) (Nat.le_refl _) (by decide) (sumL rfl) (w_X11_load hx (Rg.of _) h) (fun z175 hz175 h => ?_)
          refine V_icmp_eq 1006 dL_law_738 (by decide) hz173 hz175 ⟨fun c176 => ?_, fun c176 => ?_⟩
          · have h := h.1 c176
            refine V_iinc_3 (a3 := uu) dL_law_1006 rfl ?_
            refine V_goto 18 dL_law_1009 (by decide) ?_
            obtain ⟨g177, h⟩ := h
            exact ih _ _ hx g177 h
          · have h := h.2 c176
            refine V_iconst dL_law_741 ?_
            exact V_zreturn dL_law_742 rfl (Or.inl rfl) ⟨_, _, rfl, hx, rfl, (rgL rfl), h⟩
        have h := h.2 e_22
        have b_23 : 23 ≤ (jand ((gX Γ (v3.toNat)).toInt) 63) := lbs b_22 e_22
        by_cases e_23 : (jand ((gX Γ (v3.toNat)).toInt) 63) = 23
        · have h := h.1 e_23
          refine V_tableIn (off := 711) 743 dL_law_32 (Rg.of _) (fun z => eo (Or.inl z)) (fun z => eo (Or.inr z)) (by rw [e_23]; rfl) (by decide) ?_
          refine V_aload_1 dL_law_743 ?_
          refine V_aload_0 dL_law_744 ?_
          refine V_iload_3 dL_law_745 ?_
          refine V_iconst dL_law_746 ?_
          refine V_iadd dL_law_747 ?_
          obtain ⟨g178, h⟩ := h
          refine V_xald dL_law_748 hL g178.1 g178.2 ?_
          refine V_aload_0 dL_law_749 ?_
          refine V_iload_3 dL_law_750 ?_
          refine V_iconst dL_law_751 ?_
          refine V_iadd dL_law_752 ?_
          obtain ⟨g179, h⟩ := h
          refine V_xald dL_law_753 hL g179.1 g179.2 ?_
          refine V_cVI2 (My := D_X10_slips) dL_law_754 ml_L_108 ce_X10_slips ly_0 (by decide) cl_10 (by decide) (by decide) (Nat.le_refl _) (by decide) (sumL rfl) (w_X10_slips hx (Rg.of _) (Rg.of _) h) (fun z180 hz180 h => ?_)
          refine V_aload_2 dL_law_757 ?_
          refine V_aload_0 dL_law_758 ?_
          refine V_iload_3 dL_law_759 ?_
          refine V_iconst dL_law_760 ?_
          refine V_iadd dL_law_761 ?_
          obtain ⟨g181, h⟩ := h
          refine V_xald dL_law_762 hL g181.1 g181.2 ?_
          refine V_aload_0 dL_law_763 ?_
          refine V_iload_3 dL_law_764 ?_
          refine V_iconst dL_law_765 ?_
          refine V_iadd dL_law_766 ?_
          obtain ⟨g182, h⟩ := h
          refine V_xald dL_law_767 hL g182.1 g182.2 ?_
          refine V_cVI2 (My := D_X11_slips) dL_law_768 ml_L_111 ce_X11_slips ly_83 (by decide) cl_11 (by decide) (by decide) (Nat.le_refl _) (by decide) (sumL rfl) (w_X11_slips hx (Rg.of _) (Rg.of _) h) (fun z183 hz183 h => ?_)
          refine V_icmp_eq 1006 dL_law_771 (by decide) hz180 hz183 ⟨fun c184 => ?_, fun c184 => ?_⟩
          · have h := h.1 c184
            refine V_iinc_3 (a3 := uu) dL_law_1006 rfl ?_
            refine V_goto 18 dL_law_1009 (by decide) ?_
            obtain ⟨g185, h⟩ := h
            exact ih _ _ hx g185 h
          · have h := h.2 c184
            refine V_iconst dL_law_774 ?_
            exact V_zreturn dL_law_775 rfl (Or.inl rfl) ⟨_, _, rfl, hx, rfl, (rgL rfl), h⟩
        have h := h.2 e_23
        have b_24 : 24 ≤ (jand ((gX Γ (v3.toNat)).toInt) 63) := lbs b_23 e_23
        by_cases e_24 : (jand ((gX Γ (v3.toNat)).toInt) 63) = 24
        · have h := h.1 e_24
          refine V_tableIn (off := 744) 776 dL_law_32 (Rg.of _) (fun z => eo (Or.inl z)) (fun z => eo (Or.inr z)) (by rw [e_24]; rfl) (by decide) ?_
          refine V_aload_1 dL_law_776 ?_
          refine V_aload_0 dL_law_777 ?_
          refine V_iload_3 dL_law_778 ?_
          refine V_iconst dL_law_779 ?_
          refine V_iadd dL_law_780 ?_
          obtain ⟨g186, h⟩ := h
          refine V_xald dL_law_781 hL g186.1 g186.2 ?_
          refine V_aload_0 dL_law_782 ?_
          refine V_iload_3 dL_law_783 ?_
          refine V_iconst dL_law_784 ?_
          refine V_iadd dL_law_785 ?_
          obtain ⟨g187, h⟩ := h
          refine V_xald dL_law_786 hL g187.1 g187.2 ?_
          refine V_cVI2 (My := D_X10_undid) dL_law_787 ml_L_112 ce_X10_undid ly_0 (by decide) cl_10 (by decide) (by decide) (Nat.le_refl _) (by decide) (sumL rfl) (w_X10_undid hx (Rg.of _) (Rg.of _) h) (fun z188 hz188 h => ?_)
          refine V_aload_2 dL_law_790 ?_
          refine V_aload_0 dL_law_791 ?_
          refine V_iload_3 dL_law_792 ?_
          refine V_iconst dL_law_793 ?_
          refine V_iadd dL_law_794 ?_
          obtain ⟨g189, h⟩ := h
          refine V_xald dL_law_795 hL g189.1 g189.2 ?_
          refine V_aload_0 dL_law_796 ?_
          refine V_iload_3 dL_law_797 ?_
          refine V_iconst dL_law_798 ?_
          refine V_iadd dL_law_799 ?_
          obtain ⟨g190, h⟩ := h
          refine V_xald dL_law_800 hL g190.1 g190.2 ?_
          refine V_cVI2 (My := D_X11_undid) dL_law_801 ml_L_115 ce_X11_undid ly_83 (by decide) cl_11 (by decide) (by decide) (Nat.le_refl _) (by decide) (sumL rfl) (w_X11_undid hx (Rg.of _) (Rg.of _) h) (fun z191 hz191 h => ?_)
          refine V_icmp_eq 1006 dL_law_804 (by decide) hz188 hz191 ⟨fun c192 => ?_, fun c192 => ?_⟩
          · have h := h.1 c192
            refine V_iinc_3 (a3 := uu) dL_law_1006 rfl ?_
            refine V_goto 18 dL_law_1009 (by decide) ?_
            obtain ⟨g193, h⟩ := h
            exact ih _ _ hx g193 h
          · have h := h.2 c192
            refine V_iconst dL_law_807 ?_
            exact V_zreturn dL_law_808 rfl (Or.inl rfl) ⟨_, _, rfl, hx, rfl, (rgL rfl), h⟩
        have h := h.2 e_24
        have b_25 : 25 ≤ (jand ((gX Γ (v3.toNat)).toInt) 63) := lbs b_24 e_24
        by_cases e_25 : (jand ((gX Γ (v3.toNat)).toInt) 63) = 25
        · have h := h.1 e_25
          refine V_tableIn (off := 777) 809 dL_law_32 (Rg.of _) (fun z => eo (Or.inl z)) (fun z => eo (Or.inr z)) (by rw [e_25]; rfl) (by decide) ?_
          refine V_aload_1 dL_law_809 ?_
          refine V_aload_0 dL_law_810 ?_
          refine V_iload_3 dL_law_811 ?_
          refine V_iconst dL_law_812 ?_
          refine V_iadd dL_law_813 ?_
          obtain ⟨g194, h⟩ := h
          refine V_xald dL_law_814 hL g194.1 g194.2 ?_
          refine V_cVI1 (My := D_X10_change) dL_law_815 ml_L_116 ce_X10_change ly_0 (by decide) cl_10 (by decide) (by decide) (Nat.le_refl _) (by decide) (sumL rfl) (w_X10_change hx (Rg.of _) h) (fun z195 hz195 h => ?_)
          refine V_aload_2 dL_law_818 ?_
          refine V_aload_0 dL_law_819 ?_
          refine V_iload_3 dL_law_820 ?_
          refine V_iconst dL_law_821 ?_
          refine V_iadd dL_law_822 ?_
          obtain ⟨g196, h⟩ := h
          refine V_xald dL_law_823 hL g196.1 g196.2 ?_
          refine V_cVI1 (My := D_X11_change) dL_law_824 ml_L_119 ce_X11_change ly_83 (by decide) cl_11 (by decide) (by decide) (Nat.le_refl _) (by decide) (sumL rfl) (w_X11_change hx (Rg.of _) h) (fun z197 hz197 h => ?_)
          refine V_icmp_eq 1006 dL_law_827 (by decide) hz195 hz197 ⟨fun c198 => ?_, fun c198 => ?_⟩
          · have h := h.1 c198
            refine V_iinc_3 (a3 := uu) dL_law_1006 rfl ?_
            refine V_goto 18 dL_law_1009 (by decide) ?_
            obtain ⟨g199, h⟩ := h
            exact ih _ _ hx g199 h
          · have h := h.2 c198
            refine V_iconst dL_law_830 ?_
            exact V_zreturn dL_law_831 rfl (Or.inl rfl) ⟨_, _, rfl, hx, rfl, (rgL rfl), h⟩
        have h := h.2 e_25
        have b_26 : 26 ≤ (jand ((gX Γ (v3.toNat)).toInt) 63) := lbs b_25 e_25
        by_cases e_26 : (jand ((gX Γ (v3.toNat)).toInt) 63) = 26
        · have h := h.1 e_26
          refine V_tableIn (off := 800) 832 dL_law_32 (Rg.of _) (fun z => eo (Or.inl z)) (fun z => eo (Or.inr z)) (by rw [e_26]; rfl) (by decide) ?_
          refine V_aload_1 dL_law_832 ?_
          refine V_aload_0 dL_law_833 ?_
          refine V_iload_3 dL_law_834 ?_
          refine V_iconst dL_law_835 ?_
          refine V_iadd dL_law_836 ?_
          obtain ⟨g200, h⟩ := h
          refine V_xald dL_law_837 hL g200.1 g200.2 ?_
          refine V_cVI1 (My := D_X10_alike) dL_law_838 ml_L_120 ce_X10_alike ly_0 (by decide) cl_10 (by decide) (by decide) (Nat.le_refl _) (by decide) (sumL rfl) (w_X10_alike hx (Rg.of _) h) (fun z201 hz201 h => ?_)
          refine V_aload_2 dL_law_841 ?_
          refine V_aload_0 dL_law_842 ?_
          refine V_iload_3 dL_law_843 ?_
          refine V_iconst dL_law_844 ?_
          refine V_iadd dL_law_845 ?_
          obtain ⟨g202, h⟩ := h
          refine V_xald dL_law_846 hL g202.1 g202.2 ?_
          refine V_cVI1 (My := D_X11_alike) dL_law_847 ml_L_123 ce_X11_alike ly_83 (by decide) cl_11 (by decide) (by decide) (Nat.le_refl _) (by decide) (sumL rfl) (w_X11_alike hx (Rg.of _) h) (fun z203 hz203 h => ?_)
          refine V_icmp_eq 1006 dL_law_850 (by decide) hz201 hz203 ⟨fun c204 => ?_, fun c204 => ?_⟩
          · have h := h.1 c204
            refine V_iinc_3 (a3 := uu) dL_law_1006 rfl ?_
            refine V_goto 18 dL_law_1009 (by decide) ?_
            obtain ⟨g205, h⟩ := h
            exact ih _ _ hx g205 h
          · have h := h.2 c204
            refine V_iconst dL_law_853 ?_
            exact V_zreturn dL_law_854 rfl (Or.inl rfl) ⟨_, _, rfl, hx, rfl, (rgL rfl), h⟩
        have h := h.2 e_26
        have b_27 : 27 ≤ (jand ((gX Γ (v3.toNat)).toInt) 63) := lbs b_26 e_26
        by_cases e_27 : (jand ((gX Γ (v3.toNat)).toInt) 63) = 27
        · have h := h.1 e_27
          refine V_tableIn (off := 823) 855 dL_law_32 (Rg.of _) (fun z => eo (Or.inl z)) (fun z => eo (Or.inr z)) (by rw [e_27]; rfl) (by decide) ?_
          refine V_aload_1 dL_law_855 ?_
          refine V_aload_0 dL_law_856 ?_
          refine V_iload_3 dL_law_857 ?_
          refine V_iconst dL_law_858 ?_
          refine V_iadd dL_law_859 ?_
          obtain ⟨g206, h⟩ := h
          refine V_xald dL_law_860 hL g206.1 g206.2 ?_
          refine V_cVI1 (My := D_X10_child) dL_law_861 ml_L_124 ce_X10_child ly_0 (by decide) cl_10 (by decide) (by decide) (Nat.le_refl _) (by decide) (sumL rfl) (w_X10_child hx (Rg.of _) h) (fun z207 hz207 h => ?_)
          refine V_aload_2 dL_law_864 ?_
          refine V_aload_0 dL_law_865 ?_
          refine V_iload_3 dL_law_866 ?_
          refine V_iconst dL_law_867 ?_
          refine V_iadd dL_law_868 ?_
          obtain ⟨g208, h⟩ := h
          refine V_xald dL_law_869 hL g208.1 g208.2 ?_
          refine V_cVI1 (My := D_X11_child) dL_law_870 ml_L_127 ce_X11_child ly_83 (by decide) cl_11 (by decide) (by decide) (Nat.le_refl _) (by decide) (sumL rfl) (w_X11_child hx (Rg.of _) h) (fun z209 hz209 h => ?_)
          refine V_icmp_eq 1006 dL_law_873 (by decide) hz207 hz209 ⟨fun c210 => ?_, fun c210 => ?_⟩
          · have h := h.1 c210
            refine V_iinc_3 (a3 := uu) dL_law_1006 rfl ?_
            refine V_goto 18 dL_law_1009 (by decide) ?_
            obtain ⟨g211, h⟩ := h
            exact ih _ _ hx g211 h
          · have h := h.2 c210
            refine V_iconst dL_law_876 ?_
            exact V_zreturn dL_law_877 rfl (Or.inl rfl) ⟨_, _, rfl, hx, rfl, (rgL rfl), h⟩
        have h := h.2 e_27
        have b_28 : 28 ≤ (jand ((gX Γ (v3.toNat)).toInt) 63) := lbs b_27 e_27
        by_cases e_28 : (jand ((gX Γ (v3.toNat)).toInt) 63) = 28
        · have h := h.1 e_28
          refine V_tableIn (off := 846) 878 dL_law_32 (Rg.of _) (fun z => eo (Or.inl z)) (fun z => eo (Or.inr z)) (by rw [e_28]; rfl) (by decide) ?_
          refine V_aload_1 dL_law_878 ?_
          refine V_aload_0 dL_law_879 ?_
          refine V_iload_3 dL_law_880 ?_
          refine V_iconst dL_law_881 ?_
          refine V_iadd dL_law_882 ?_
          obtain ⟨g212, h⟩ := h
          refine V_xald dL_law_883 hL g212.1 g212.2 ?_
          refine V_aload_0 dL_law_884 ?_
          refine V_iload_3 dL_law_885 ?_
          refine V_iconst dL_law_886 ?_
          refine V_iadd dL_law_887 ?_
          obtain ⟨g213, h⟩ := h
          refine V_xald dL_law_888 hL g213.1 g213.2 ?_
          refine V_cVE2 (My := D_X10_write) dL_law_889 ml_L_128 ce_X10_write ly_0 (by decide) cl_10 (by decide) (by decide) (Nat.le_refl _) (by decide) (sumL rfl) (w_X10_write hx (Rg.of _) (Rg.of _) h) (fun z214 x215 hx215 hz214 h => ?_)
          refine V_aload_2 dL_law_892 ?_
          refine V_aload_0 dL_law_893 ?_
          refine V_iload_3 dL_law_894 ?_
          refine V_iconst dL_law_895 ?_
          refine V_iadd dL_law_896 ?_
          obtain ⟨g216, h⟩ := h
          refine V_xald dL_law_897 hL g216.1 g216.2 ?_
          refine V_aload_0 dL_law_898 ?_
          refine V_iload_3 dL_law_899 ?_
          refine V_iconst dL_law_900 ?_
          refine V_iadd dL_law_901 ?_
          obtain ⟨g217, h⟩ := h
          refine V_xald dL_law_902 hL g217.1 g217.2 ?_
          refine V_cVE2 (My := D_X11_write) dL_law_903 ml_L_131 ce_X11_write ly_83 (by decide) cl_11 (by decide) (by decide) (Nat.le_refl _) (by decide) (sumL rfl) (w_X11_write hx215 (Rg.of _) (Rg.of _) h) (fun z218 x219 hx219 hz218 h => ?_)
          refine V_icmp_eq 1006 dL_law_906 (by decide) hz214 hz218 ⟨fun c220 => ?_, fun c220 => ?_⟩
          · have h := h.1 c220
            refine V_iinc_3 (a3 := uu) dL_law_1006 rfl ?_
            refine V_goto 18 dL_law_1009 (by decide) ?_
            obtain ⟨g221, h⟩ := h
            exact ih _ _ hx219 g221 h
          · have h := h.2 c220
            refine V_iconst dL_law_909 ?_
            exact V_zreturn dL_law_910 rfl (Or.inl rfl) ⟨_, _, rfl, hx219, rfl, (rgL rfl), h⟩
        have h := h.2 e_28
        have b_29 : 29 ≤ (jand ((gX Γ (v3.toNat)).toInt) 63) := lbs b_28 e_28
        by_cases e_29 : (jand ((gX Γ (v3.toNat)).toInt) 63) = 29
        · have h := h.1 e_29
          refine V_tableIn (off := 879) 911 dL_law_32 (Rg.of _) (fun z => eo (Or.inl z)) (fun z => eo (Or.inr z)) (by rw [e_29]; rfl) (by decide) ?_
          refine V_aload_1 dL_law_911 ?_
          refine V_cVE0 (My := D_X10_tear) dL_law_912 ml_L_132 ce_X10_tear ly_0 (by decide) cl_10 (by decide) (by decide) (Nat.le_refl _) (by decide) (sumL rfl) (w_X10_tear hx h) (fun z222 x223 hx223 hz222 h => ?_)
          refine V_aload_2 dL_law_915 ?_
          refine V_cVE0 (My := D_X11_tear) dL_law_916 ml_L_135 ce_X11_tear ly_83 (by decide) cl_11 (by decide) (by decide) (Nat.le_refl _) (by decide) (sumL rfl) (w_X11_tear hx223 h) (fun z224 x225 hx225 hz224 h => ?_)
          refine V_icmp_eq 1006 dL_law_919 (by decide) hz222 hz224 ⟨fun c226 => ?_, fun c226 => ?_⟩
          · have h := h.1 c226
            refine V_iinc_3 (a3 := uu) dL_law_1006 rfl ?_
            refine V_goto 18 dL_law_1009 (by decide) ?_
            obtain ⟨g227, h⟩ := h
            exact ih _ _ hx225 g227 h
          · have h := h.2 c226
            refine V_iconst dL_law_922 ?_
            exact V_zreturn dL_law_923 rfl (Or.inl rfl) ⟨_, _, rfl, hx225, rfl, (rgL rfl), h⟩
        have h := h.2 e_29
        have b_30 : 30 ≤ (jand ((gX Γ (v3.toNat)).toInt) 63) := lbs b_29 e_29
        by_cases e_30 : (jand ((gX Γ (v3.toNat)).toInt) 63) = 30
        · have h := h.1 e_30
          refine V_tableIn (off := 892) 924 dL_law_32 (Rg.of _) (fun z => eo (Or.inl z)) (fun z => eo (Or.inr z)) (by rw [e_30]; rfl) (by decide) ?_
          refine V_aload_1 dL_law_924 ?_
          refine V_cVI0 (My := D_X10_judge) dL_law_925 ml_L_136 ce_X10_judge ly_0 (by decide) cl_10 (by decide) (by decide) (Nat.le_refl _) (by decide) (sumL rfl) (w_X10_judge hx h) (fun z228 hz228 h => ?_)
          refine V_aload_2 dL_law_928 ?_
          refine V_cVI0 (My := D_X11_judge) dL_law_929 ml_L_139 ce_X11_judge ly_83 (by decide) cl_11 (by decide) (by decide) (Nat.le_refl _) (by decide) (sumL rfl) (w_X11_judge hx h) (fun z229 hz229 h => ?_)
          refine V_icmp_eq 1006 dL_law_932 (by decide) hz228 hz229 ⟨fun c230 => ?_, fun c230 => ?_⟩
          · have h := h.1 c230
            refine V_iinc_3 (a3 := uu) dL_law_1006 rfl ?_
            refine V_goto 18 dL_law_1009 (by decide) ?_
            obtain ⟨g231, h⟩ := h
            exact ih _ _ hx g231 h
          · have h := h.2 c230
            refine V_iconst dL_law_935 ?_
            exact V_zreturn dL_law_936 rfl (Or.inl rfl) ⟨_, _, rfl, hx, rfl, (rgL rfl), h⟩
        have h := h.2 e_30
        have b_31 : 31 ≤ (jand ((gX Γ (v3.toNat)).toInt) 63) := lbs b_30 e_30
        by_cases e_31 : (jand ((gX Γ (v3.toNat)).toInt) 63) = 31
        · have h := h.1 e_31
          refine V_tableIn (off := 905) 937 dL_law_32 (Rg.of _) (fun z => eo (Or.inl z)) (fun z => eo (Or.inr z)) (by rw [e_31]; rfl) (by decide) ?_
          refine V_aload_1 dL_law_937 ?_
          refine V_aload_0 dL_law_938 ?_
          refine V_iload_3 dL_law_939 ?_
          refine V_iconst dL_law_940 ?_
          refine V_iadd dL_law_941 ?_
          obtain ⟨g232, h⟩ := h
          refine V_xald dL_law_942 hL g232.1 g232.2 ?_
          refine V_cVE1 (My := D_X10_seed) dL_law_943 ml_L_140 ce_X10_seed ly_0 (by decide) cl_10 (by decide) (by decide) (Nat.le_refl _) (by decide) (sumL rfl) (w_X10_seed hx (Rg.of _) h) (fun z233 x234 hx234 hz233 h => ?_)
          refine V_aload_2 dL_law_946 ?_
          refine V_aload_0 dL_law_947 ?_
          refine V_iload_3 dL_law_948 ?_
          refine V_iconst dL_law_949 ?_
          refine V_iadd dL_law_950 ?_
          obtain ⟨g235, h⟩ := h
          refine V_xald dL_law_951 hL g235.1 g235.2 ?_
          refine V_cVE1 (My := D_X11_seed) dL_law_952 ml_L_143 ce_X11_seed ly_83 (by decide) cl_11 (by decide) (by decide) (Nat.le_refl _) (by decide) (sumL rfl) (w_X11_seed hx234 (Rg.of _) h) (fun z236 x237 hx237 hz236 h => ?_)
          refine V_icmp_eq 1006 dL_law_955 (by decide) hz233 hz236 ⟨fun c238 => ?_, fun c238 => ?_⟩
          · have h := h.1 c238
            refine V_iinc_3 (a3 := uu) dL_law_1006 rfl ?_
            refine V_goto 18 dL_law_1009 (by decide) ?_
            obtain ⟨g239, h⟩ := h
            exact ih _ _ hx237 g239 h
          · have h := h.2 c238
            refine V_iconst dL_law_958 ?_
            exact V_zreturn dL_law_959 rfl (Or.inl rfl) ⟨_, _, rfl, hx237, rfl, (rgL rfl), h⟩
        have h := h.2 e_31
        have b_32 : 32 ≤ (jand ((gX Γ (v3.toNat)).toInt) 63) := lbs b_31 e_31
        by_cases e_32 : (jand ((gX Γ (v3.toNat)).toInt) 63) = 32
        · have h := h.1 e_32
          refine V_tableIn (off := 928) 960 dL_law_32 (Rg.of _) (fun z => eo (Or.inl z)) (fun z => eo (Or.inr z)) (by rw [e_32]; rfl) (by decide) ?_
          refine V_aload_1 dL_law_960 ?_
          refine V_aload_0 dL_law_961 ?_
          refine V_iload_3 dL_law_962 ?_
          refine V_iconst dL_law_963 ?_
          refine V_iadd dL_law_964 ?_
          obtain ⟨g240, h⟩ := h
          refine V_xald dL_law_965 hL g240.1 g240.2 ?_
          refine V_cVE1 (My := D_X10_keep) dL_law_966 ml_L_144 ce_X10_keep ly_0 (by decide) cl_10 (by decide) (by decide) (Nat.le_refl _) (by decide) (sumL rfl) (w_X10_keep hx (Rg.of _) h) (fun z241 x242 hx242 hz241 h => ?_)
          refine V_aload_2 dL_law_969 ?_
          refine V_aload_0 dL_law_970 ?_
          refine V_iload_3 dL_law_971 ?_
          refine V_iconst dL_law_972 ?_
          refine V_iadd dL_law_973 ?_
          obtain ⟨g243, h⟩ := h
          refine V_xald dL_law_974 hL g243.1 g243.2 ?_
          refine V_cVE1 (My := D_X11_keep) dL_law_975 ml_L_147 ce_X11_keep ly_83 (by decide) cl_11 (by decide) (by decide) (Nat.le_refl _) (by decide) (sumL rfl) (w_X11_keep hx242 (Rg.of _) h) (fun z244 x245 hx245 hz244 h => ?_)
          refine V_icmp_eq 1006 dL_law_978 (by decide) hz241 hz244 ⟨fun c246 => ?_, fun c246 => ?_⟩
          · have h := h.1 c246
            refine V_iinc_3 (a3 := uu) dL_law_1006 rfl ?_
            refine V_goto 18 dL_law_1009 (by decide) ?_
            obtain ⟨g247, h⟩ := h
            exact ih _ _ hx245 g247 h
          · have h := h.2 c246
            refine V_iconst dL_law_981 ?_
            exact V_zreturn dL_law_982 rfl (Or.inl rfl) ⟨_, _, rfl, hx245, rfl, (rgL rfl), h⟩
        have h := h.2 e_32
        have b_33 : 33 ≤ (jand ((gX Γ (v3.toNat)).toInt) 63) := lbs b_32 e_32
        by_cases e_33 : (jand ((gX Γ (v3.toNat)).toInt) 63) = 33
        · have h := h.1 e_33
          refine V_tableIn (off := 951) 983 dL_law_32 (Rg.of _) (fun z => eo (Or.inl z)) (fun z => eo (Or.inr z)) (by rw [e_33]; rfl) (by decide) ?_
          refine V_aload_1 dL_law_983 ?_
          refine V_aload_0 dL_law_984 ?_
          refine V_iload_3 dL_law_985 ?_
          refine V_iconst dL_law_986 ?_
          refine V_iadd dL_law_987 ?_
          obtain ⟨g248, h⟩ := h
          refine V_xald dL_law_988 hL g248.1 g248.2 ?_
          refine V_cVE1 (My := D_X10_goBack) dL_law_989 ml_L_148 ce_X10_goBack ly_0 (by decide) cl_10 (by decide) (by decide) (Nat.le_refl _) (by decide) (sumL rfl) (w_X10_goBack hx (Rg.of _) h) (fun z249 x250 hx250 hz249 h => ?_)
          refine V_aload_2 dL_law_992 ?_
          refine V_aload_0 dL_law_993 ?_
          refine V_iload_3 dL_law_994 ?_
          refine V_iconst dL_law_995 ?_
          refine V_iadd dL_law_996 ?_
          obtain ⟨g251, h⟩ := h
          refine V_xald dL_law_997 hL g251.1 g251.2 ?_
          refine V_cVE1 (My := D_X11_goBack) dL_law_998 ml_L_151 ce_X11_goBack ly_83 (by decide) cl_11 (by decide) (by decide) (Nat.le_refl _) (by decide) (sumL rfl) (w_X11_goBack hx250 (Rg.of _) h) (fun z252 x253 hx253 hz252 h => ?_)
          refine V_icmp_eq 1006 dL_law_1001 (by decide) hz249 hz252 ⟨fun c254 => ?_, fun c254 => ?_⟩
          · have h := h.1 c254
            refine V_iinc_3 (a3 := uu) dL_law_1006 rfl ?_
            refine V_goto 18 dL_law_1009 (by decide) ?_
            obtain ⟨g255, h⟩ := h
            exact ih _ _ hx253 g255 h
          · have h := h.2 c254
            refine V_iconst dL_law_1004 ?_
            exact V_zreturn dL_law_1005 rfl (Or.inl rfl) ⟨_, _, rfl, hx253, rfl, (rgL rfl), h⟩
        have h := h.2 e_33
        have b_34 : 34 ≤ (jand ((gX Γ (v3.toNat)).toInt) 63) := lbs b_33 e_33
        exact absurd b_34 (fun z => eo (Or.inr (Int.lt_of_lt_of_le (by decide) z)))
set_option maxRecDepth 100000 in
theorem w_L_law {Γ : GE} (hL : gL Γ < 2147483648) (hLr : Rg ((gL Γ : Nat) : Int)) {x : XM} (hx : WX x) {q : Int → XM → Prop} (h : M_L_law (gL Γ) (fun j => (gX Γ j).toInt) x q) : V Γ 12 0 NF D_L_law (QE Γ q) 16 [.ref (gS Γ 0), .ref (gB Γ + 0), .ref (gB Γ + 83), uu] [] NF (mk Γ x) := by
  unfold M_L_law at h
  refine V_iconst dL_law_16 ?_
  refine V_istore_3 dL_law_17 rfl rfl ?_
  obtain ⟨m9, h⟩ := h
  exact w_L_law_18 hL hLr m9 _ _ hx (rgL rfl) h
