theorem V_iload_0 {Γ : GE} {d n0 nE : Nat} {M : MD} {Q : Option Value → HP → Prop} {pc n : Nat} {st : List Value} {G : HP} {z : Int} {t : List Value} (hd : decode M.2.1 pc = .ok (.iload_n 0, 1)) (K : V Γ d n0 nE M Q (pc + 1) (vI z :: t) (vI z :: st) n G) : V Γ d n0 nE M Q pc (vI z :: t) st n G :=
  V_iload_n hd rfl rfl K
theorem V_aload_0 {Γ : GE} {d n0 nE : Nat} {M : MD} {Q : Option Value → HP → Prop} {pc n : Nat} {st : List Value} {G : HP} {z : Nat} {t : List Value} (hd : decode M.2.1 pc = .ok (.aload_n 0, 1)) (K : V Γ d n0 nE M Q (pc + 1) (.ref z :: t) (.ref z :: st) n G) : V Γ d n0 nE M Q pc (.ref z :: t) st n G :=
  V_aload_n hd rfl rfl K
theorem V_lload_0 {Γ : GE} {d n0 nE : Nat} {M : MD} {Q : Option Value → HP → Prop} {pc n : Nat} {st : List Value} {G : HP} {z : Int64} {t : List Value} (hd : decode M.2.1 pc = .ok (.lload_n 0, 1)) (K : V Γ d n0 nE M Q (pc + 1) (.long z :: t) (.long z :: st) n G) : V Γ d n0 nE M Q pc (.long z :: t) st n G :=
  V_lload_n hd rfl rfl K
theorem V_iload_1 {Γ : GE} {d n0 nE : Nat} {M : MD} {Q : Option Value → HP → Prop} {pc n : Nat} {st : List Value} {G : HP} {a0 : Value} {z : Int} {t : List Value} (hd : decode M.2.1 pc = .ok (.iload_n 1, 1)) (K : V Γ d n0 nE M Q (pc + 1) (a0 :: vI z :: t) (vI z :: st) n G) : V Γ d n0 nE M Q pc (a0 :: vI z :: t) st n G :=
  V_iload_n hd rfl rfl K
theorem V_aload_1 {Γ : GE} {d n0 nE : Nat} {M : MD} {Q : Option Value → HP → Prop} {pc n : Nat} {st : List Value} {G : HP} {a0 : Value} {z : Nat} {t : List Value} (hd : decode M.2.1 pc = .ok (.aload_n 1, 1)) (K : V Γ d n0 nE M Q (pc + 1) (a0 :: .ref z :: t) (.ref z :: st) n G) : V Γ d n0 nE M Q pc (a0 :: .ref z :: t) st n G :=
  V_aload_n hd rfl rfl K
theorem V_lload_1 {Γ : GE} {d n0 nE : Nat} {M : MD} {Q : Option Value → HP → Prop} {pc n : Nat} {st : List Value} {G : HP} {a0 : Value} {z : Int64} {t : List Value} (hd : decode M.2.1 pc = .ok (.lload_n 1, 1)) (K : V Γ d n0 nE M Q (pc + 1) (a0 :: .long z :: t) (.long z :: st) n G) : V Γ d n0 nE M Q pc (a0 :: .long z :: t) st n G :=
  V_lload_n hd rfl rfl K
theorem V_iload_2 {Γ : GE} {d n0 nE : Nat} {M : MD} {Q : Option Value → HP → Prop} {pc n : Nat} {st : List Value} {G : HP} {a0 a1 : Value} {z : Int} {t : List Value} (hd : decode M.2.1 pc = .ok (.iload_n 2, 1)) (K : V Γ d n0 nE M Q (pc + 1) (a0 :: a1 :: vI z :: t) (vI z :: st) n G) : V Γ d n0 nE M Q pc (a0 :: a1 :: vI z :: t) st n G :=
  V_iload_n hd rfl rfl K
theorem V_aload_2 {Γ : GE} {d n0 nE : Nat} {M : MD} {Q : Option Value → HP → Prop} {pc n : Nat} {st : List Value} {G : HP} {a0 a1 : Value} {z : Nat} {t : List Value} (hd : decode M.2.1 pc = .ok (.aload_n 2, 1)) (K : V Γ d n0 nE M Q (pc + 1) (a0 :: a1 :: .ref z :: t) (.ref z :: st) n G) : V Γ d n0 nE M Q pc (a0 :: a1 :: .ref z :: t) st n G :=
  V_aload_n hd rfl rfl K
theorem V_lload_2 {Γ : GE} {d n0 nE : Nat} {M : MD} {Q : Option Value → HP → Prop} {pc n : Nat} {st : List Value} {G : HP} {a0 a1 : Value} {z : Int64} {t : List Value} (hd : decode M.2.1 pc = .ok (.lload_n 2, 1)) (K : V Γ d n0 nE M Q (pc + 1) (a0 :: a1 :: .long z :: t) (.long z :: st) n G) : V Γ d n0 nE M Q pc (a0 :: a1 :: .long z :: t) st n G :=
  V_lload_n hd rfl rfl K
theorem V_iload_3 {Γ : GE} {d n0 nE : Nat} {M : MD} {Q : Option Value → HP → Prop} {pc n : Nat} {st : List Value} {G : HP} {a0 a1 a2 : Value} {z : Int} {t : List Value} (hd : decode M.2.1 pc = .ok (.iload_n 3, 1)) (K : V Γ d n0 nE M Q (pc + 1) (a0 :: a1 :: a2 :: vI z :: t) (vI z :: st) n G) : V Γ d n0 nE M Q pc (a0 :: a1 :: a2 :: vI z :: t) st n G :=
  V_iload_n hd rfl rfl K
theorem V_aload_3 {Γ : GE} {d n0 nE : Nat} {M : MD} {Q : Option Value → HP → Prop} {pc n : Nat} {st : List Value} {G : HP} {a0 a1 a2 : Value} {z : Nat} {t : List Value} (hd : decode M.2.1 pc = .ok (.aload_n 3, 1)) (K : V Γ d n0 nE M Q (pc + 1) (a0 :: a1 :: a2 :: .ref z :: t) (.ref z :: st) n G) : V Γ d n0 nE M Q pc (a0 :: a1 :: a2 :: .ref z :: t) st n G :=
  V_aload_n hd rfl rfl K
theorem V_lload_3 {Γ : GE} {d n0 nE : Nat} {M : MD} {Q : Option Value → HP → Prop} {pc n : Nat} {st : List Value} {G : HP} {a0 a1 a2 : Value} {z : Int64} {t : List Value} (hd : decode M.2.1 pc = .ok (.lload_n 3, 1)) (K : V Γ d n0 nE M Q (pc + 1) (a0 :: a1 :: a2 :: .long z :: t) (.long z :: st) n G) : V Γ d n0 nE M Q pc (a0 :: a1 :: a2 :: .long z :: t) st n G :=
  V_lload_n hd rfl rfl K
theorem V_iload_4 {Γ : GE} {d n0 nE : Nat} {M : MD} {Q : Option Value → HP → Prop} {pc n : Nat} {st : List Value} {G : HP} {a0 a1 a2 a3 : Value} {z : Int} {t : List Value} (hd : decode M.2.1 pc = .ok (.iload 4, 2)) (K : V Γ d n0 nE M Q (pc + 2) (a0 :: a1 :: a2 :: a3 :: vI z :: t) (vI z :: st) n G) : V Γ d n0 nE M Q pc (a0 :: a1 :: a2 :: a3 :: vI z :: t) st n G :=
  V_iload hd rfl rfl K
theorem V_iload_5 {Γ : GE} {d n0 nE : Nat} {M : MD} {Q : Option Value → HP → Prop} {pc n : Nat} {st : List Value} {G : HP} {a0 a1 a2 a3 a4 : Value} {z : Int} {t : List Value} (hd : decode M.2.1 pc = .ok (.iload 5, 2)) (K : V Γ d n0 nE M Q (pc + 2) (a0 :: a1 :: a2 :: a3 :: a4 :: vI z :: t) (vI z :: st) n G) : V Γ d n0 nE M Q pc (a0 :: a1 :: a2 :: a3 :: a4 :: vI z :: t) st n G :=
  V_iload hd rfl rfl K
theorem V_iload_6 {Γ : GE} {d n0 nE : Nat} {M : MD} {Q : Option Value → HP → Prop} {pc n : Nat} {st : List Value} {G : HP} {a0 a1 a2 a3 a4 a5 : Value} {z : Int} {t : List Value} (hd : decode M.2.1 pc = .ok (.iload 6, 2)) (K : V Γ d n0 nE M Q (pc + 2) (a0 :: a1 :: a2 :: a3 :: a4 :: a5 :: vI z :: t) (vI z :: st) n G) : V Γ d n0 nE M Q pc (a0 :: a1 :: a2 :: a3 :: a4 :: a5 :: vI z :: t) st n G :=
  V_iload hd rfl rfl K
theorem V_iload_7 {Γ : GE} {d n0 nE : Nat} {M : MD} {Q : Option Value → HP → Prop} {pc n : Nat} {st : List Value} {G : HP} {a0 a1 a2 a3 a4 a5 a6 : Value} {z : Int} {t : List Value} (hd : decode M.2.1 pc = .ok (.iload 7, 2)) (K : V Γ d n0 nE M Q (pc + 2) (a0 :: a1 :: a2 :: a3 :: a4 :: a5 :: a6 :: vI z :: t) (vI z :: st) n G) : V Γ d n0 nE M Q pc (a0 :: a1 :: a2 :: a3 :: a4 :: a5 :: a6 :: vI z :: t) st n G :=
  V_iload hd rfl rfl K
theorem V_iload_8 {Γ : GE} {d n0 nE : Nat} {M : MD} {Q : Option Value → HP → Prop} {pc n : Nat} {st : List Value} {G : HP} {a0 a1 a2 a3 a4 a5 a6 a7 : Value} {z : Int} {t : List Value} (hd : decode M.2.1 pc = .ok (.iload 8, 2)) (K : V Γ d n0 nE M Q (pc + 2) (a0 :: a1 :: a2 :: a3 :: a4 :: a5 :: a6 :: a7 :: vI z :: t) (vI z :: st) n G) : V Γ d n0 nE M Q pc (a0 :: a1 :: a2 :: a3 :: a4 :: a5 :: a6 :: a7 :: vI z :: t) st n G :=
  V_iload hd rfl rfl K
theorem V_iload_9 {Γ : GE} {d n0 nE : Nat} {M : MD} {Q : Option Value → HP → Prop} {pc n : Nat} {st : List Value} {G : HP} {a0 a1 a2 a3 a4 a5 a6 a7 a8 : Value} {z : Int} {t : List Value} (hd : decode M.2.1 pc = .ok (.iload 9, 2)) (K : V Γ d n0 nE M Q (pc + 2) (a0 :: a1 :: a2 :: a3 :: a4 :: a5 :: a6 :: a7 :: a8 :: vI z :: t) (vI z :: st) n G) : V Γ d n0 nE M Q pc (a0 :: a1 :: a2 :: a3 :: a4 :: a5 :: a6 :: a7 :: a8 :: vI z :: t) st n G :=
  V_iload hd rfl rfl K
theorem V_iload_10 {Γ : GE} {d n0 nE : Nat} {M : MD} {Q : Option Value → HP → Prop} {pc n : Nat} {st : List Value} {G : HP} {a0 a1 a2 a3 a4 a5 a6 a7 a8 a9 : Value} {z : Int} {t : List Value} (hd : decode M.2.1 pc = .ok (.iload 10, 2)) (K : V Γ d n0 nE M Q (pc + 2) (a0 :: a1 :: a2 :: a3 :: a4 :: a5 :: a6 :: a7 :: a8 :: a9 :: vI z :: t) (vI z :: st) n G) : V Γ d n0 nE M Q pc (a0 :: a1 :: a2 :: a3 :: a4 :: a5 :: a6 :: a7 :: a8 :: a9 :: vI z :: t) st n G :=
  V_iload hd rfl rfl K
theorem V_iload_11 {Γ : GE} {d n0 nE : Nat} {M : MD} {Q : Option Value → HP → Prop} {pc n : Nat} {st : List Value} {G : HP} {a0 a1 a2 a3 a4 a5 a6 a7 a8 a9 a10 : Value} {z : Int} {t : List Value} (hd : decode M.2.1 pc = .ok (.iload 11, 2)) (K : V Γ d n0 nE M Q (pc + 2) (a0 :: a1 :: a2 :: a3 :: a4 :: a5 :: a6 :: a7 :: a8 :: a9 :: a10 :: vI z :: t) (vI z :: st) n G) : V Γ d n0 nE M Q pc (a0 :: a1 :: a2 :: a3 :: a4 :: a5 :: a6 :: a7 :: a8 :: a9 :: a10 :: vI z :: t) st n G :=
  V_iload hd rfl rfl K
theorem ly_0 : lay 0 = (10, 10) := rfl
theorem wr_0_0 {x : XM} : wire x 0 0 = some 1 := rfl
theorem wr_0_1 {x : XM} : wire x 0 1 = some 3 := rfl
theorem wr_0_2 {x : XM} : wire x 0 2 = some 10 := rfl
theorem wr_0_3 {x : XM} : wire x 0 3 = some 60 := rfl
theorem wr_0_4 {x : XM} : wire x 0 4 = some 63 := rfl
theorem wr_0_5 {x : XM} : wire x 0 5 = some 64 := rfl
theorem wr_0_6 {x : XM} : wire x 0 6 = some 65 := rfl
theorem wr_0_7 {x : XM} : wire x 0 7 = some 68 := rfl
theorem wr_0_8 {x : XM} : wire x 0 8 = some (tid (x 0 8)) := rfl
theorem wn_0_9 {x : XM} : wire x 0 9 = none := rfl
theorem ly_1 : lay 1 = (8, 3) := rfl
theorem wr_1_0 {x : XM} : wire x 1 0 = some 2 := rfl
theorem wn_1_1 {x : XM} : wire x 1 1 = none := rfl
theorem wn_1_2 {x : XM} : wire x 1 2 = none := rfl
theorem ly_2 : lay 2 = (20, 240) := rfl
theorem ly_3 : lay 3 = (0, 2) := rfl
theorem wr_3_0 {x : XM} : wire x 3 0 = some 4 := rfl
theorem wr_3_1 {x : XM} : wire x 3 1 = some (tid (x 3 1)) := rfl
theorem ly_4 : lay 4 = (2, 4) := rfl
theorem ly_5 : lay 5 = (20, 12) := rfl
theorem ly_6 : lay 6 = (20, 6) := rfl
theorem ly_7 : lay 7 = (9, 2) := rfl
theorem ly_8 : lay 8 = (20, 5) := rfl
theorem ly_9 : lay 9 = (20, 116) := rfl
theorem ly_10 : lay 10 = (7, 3) := rfl
theorem wr_10_0 {x : XM} : wire x 10 0 = some 11 := rfl
theorem wn_10_1 {x : XM} : wire x 10 1 = none := rfl
theorem wn_10_2 {x : XM} : wire x 10 2 = none := rfl
theorem ly_11 : lay 11 = (23, 16) := rfl
theorem ly_12 : lay 12 = (2, 4) := rfl
theorem ly_13 : lay 13 = (20, 12) := rfl
theorem ly_14 : lay 14 = (20, 6) := rfl
theorem ly_15 : lay 15 = (2, 4) := rfl
theorem ly_16 : lay 16 = (20, 12) := rfl
theorem ly_17 : lay 17 = (20, 6) := rfl
theorem ly_18 : lay 18 = (2, 4) := rfl
theorem ly_19 : lay 19 = (20, 12) := rfl
theorem ly_20 : lay 20 = (20, 6) := rfl
theorem ly_21 : lay 21 = (2, 4) := rfl
theorem ly_22 : lay 22 = (20, 12) := rfl
theorem ly_23 : lay 23 = (20, 6) := rfl
theorem ly_24 : lay 24 = (2, 4) := rfl
theorem ly_25 : lay 25 = (20, 12) := rfl
theorem ly_26 : lay 26 = (20, 6) := rfl
theorem ly_27 : lay 27 = (2, 4) := rfl
theorem ly_28 : lay 28 = (20, 12) := rfl
theorem ly_29 : lay 29 = (20, 6) := rfl
theorem ly_30 : lay 30 = (2, 4) := rfl
theorem ly_31 : lay 31 = (20, 12) := rfl
theorem ly_32 : lay 32 = (20, 6) := rfl
theorem ly_33 : lay 33 = (2, 4) := rfl
theorem ly_34 : lay 34 = (20, 12) := rfl
theorem ly_35 : lay 35 = (20, 6) := rfl
theorem ly_36 : lay 36 = (2, 4) := rfl
theorem ly_37 : lay 37 = (20, 12) := rfl
theorem ly_38 : lay 38 = (20, 6) := rfl
theorem ly_39 : lay 39 = (2, 4) := rfl
theorem ly_40 : lay 40 = (20, 12) := rfl
theorem ly_41 : lay 41 = (20, 6) := rfl
theorem ly_42 : lay 42 = (2, 4) := rfl
theorem ly_43 : lay 43 = (20, 12) := rfl
theorem ly_44 : lay 44 = (20, 6) := rfl
theorem ly_45 : lay 45 = (2, 4) := rfl
theorem ly_46 : lay 46 = (20, 12) := rfl
theorem ly_47 : lay 47 = (20, 6) := rfl
theorem ly_48 : lay 48 = (2, 4) := rfl
theorem ly_49 : lay 49 = (20, 12) := rfl
theorem ly_50 : lay 50 = (20, 6) := rfl
theorem ly_51 : lay 51 = (2, 4) := rfl
theorem ly_52 : lay 52 = (20, 12) := rfl
theorem ly_53 : lay 53 = (20, 6) := rfl
theorem ly_54 : lay 54 = (2, 4) := rfl
theorem ly_55 : lay 55 = (20, 12) := rfl
theorem ly_56 : lay 56 = (20, 6) := rfl
theorem ly_57 : lay 57 = (2, 4) := rfl
theorem ly_58 : lay 58 = (20, 12) := rfl
theorem ly_59 : lay 59 = (20, 6) := rfl
theorem ly_60 : lay 60 = (1, 3) := rfl
theorem wr_60_0 {x : XM} : wire x 60 0 = some 61 := rfl
theorem wr_60_1 {x : XM} : wire x 60 1 = some 62 := rfl
theorem wn_60_2 {x : XM} : wire x 60 2 = none := rfl
theorem ly_61 : lay 61 = (20, 15) := rfl
theorem ly_62 : lay 62 = (20, 15) := rfl
theorem ly_63 : lay 63 = (3, 1) := rfl
theorem wn_63_0 {x : XM} : wire x 63 0 = none := rfl
theorem ly_64 : lay 64 = (24, 2) := rfl
theorem ly_65 : lay 65 = (4, 4) := rfl
theorem wr_65_0 {x : XM} : wire x 65 0 = some 3 := rfl
theorem wr_65_1 {x : XM} : wire x 65 1 = some 66 := rfl
theorem wr_65_2 {x : XM} : wire x 65 2 = some 67 := rfl
theorem wn_65_3 {x : XM} : wire x 65 3 = none := rfl
theorem ly_66 : lay 66 = (20, 12) := rfl
theorem ly_67 : lay 67 = (20, 120) := rfl
theorem ly_68 : lay 68 = (6, 4) := rfl
theorem wr_68_0 {x : XM} : wire x 68 0 = some 3 := rfl
theorem wr_68_1 {x : XM} : wire x 68 1 = some 69 := rfl
theorem wr_68_2 {x : XM} : wire x 68 2 = some 70 := rfl
theorem wr_68_3 {x : XM} : wire x 68 3 = some 71 := rfl
theorem ly_69 : lay 69 = (20, 12) := rfl
theorem ly_70 : lay 70 = (20, 5) := rfl
theorem ly_71 : lay 71 = (20, 5) := rfl
theorem ly_72 : lay 72 = (9, 2) := rfl
theorem ly_73 : lay 73 = (20, 5) := rfl
theorem ly_74 : lay 74 = (20, 116) := rfl
theorem ly_75 : lay 75 = (5, 3) := rfl
theorem ly_76 : lay 76 = (2, 4) := rfl
theorem ly_77 : lay 77 = (20, 12) := rfl
theorem ly_78 : lay 78 = (20, 6) := rfl
theorem ly_79 : lay 79 = (5, 3) := rfl
theorem ly_80 : lay 80 = (2, 4) := rfl
theorem ly_81 : lay 81 = (20, 12) := rfl
theorem ly_82 : lay 82 = (20, 6) := rfl
theorem ly_83 : lay 83 = (11, 39) := rfl
theorem wr_83_0 {x : XM} : wire x 83 0 = some 84 := rfl
theorem wn_83_1 {x : XM} : wire x 83 1 = none := rfl
theorem wn_83_2 {x : XM} : wire x 83 2 = none := rfl
theorem wn_83_3 {x : XM} : wire x 83 3 = none := rfl
theorem wr_83_4 {x : XM} : wire x 83 4 = some 85 := rfl
theorem wn_83_5 {x : XM} : wire x 83 5 = none := rfl
theorem wr_83_6 {x : XM} : wire x 83 6 = some 86 := rfl
theorem wn_83_7 {x : XM} : wire x 83 7 = none := rfl
theorem wr_83_8 {x : XM} : wire x 83 8 = some 87 := rfl
theorem wn_83_9 {x : XM} : wire x 83 9 = none := rfl
theorem wr_83_10 {x : XM} : wire x 83 10 = some 88 := rfl
theorem wn_83_11 {x : XM} : wire x 83 11 = none := rfl
theorem wn_83_12 {x : XM} : wire x 83 12 = none := rfl
theorem wr_83_13 {x : XM} : wire x 83 13 = some 89 := rfl
theorem wn_83_14 {x : XM} : wire x 83 14 = none := rfl
theorem wr_83_15 {x : XM} : wire x 83 15 = some 90 := rfl
theorem wn_83_16 {x : XM} : wire x 83 16 = none := rfl
theorem wr_83_17 {x : XM} : wire x 83 17 = some 91 := rfl
theorem wn_83_18 {x : XM} : wire x 83 18 = none := rfl
theorem wr_83_19 {x : XM} : wire x 83 19 = some 92 := rfl
theorem wn_83_20 {x : XM} : wire x 83 20 = none := rfl
theorem wn_83_21 {x : XM} : wire x 83 21 = none := rfl
theorem wn_83_22 {x : XM} : wire x 83 22 = none := rfl
theorem wn_83_23 {x : XM} : wire x 83 23 = none := rfl
theorem wn_83_24 {x : XM} : wire x 83 24 = none := rfl
theorem wr_83_25 {x : XM} : wire x 83 25 = some 93 := rfl
theorem wr_83_26 {x : XM} : wire x 83 26 = some 94 := rfl
theorem wn_83_27 {x : XM} : wire x 83 27 = none := rfl
theorem wr_83_28 {x : XM} : wire x 83 28 = some 95 := rfl
theorem wr_83_29 {x : XM} : wire x 83 29 = some 96 := rfl
theorem wr_83_30 {x : XM} : wire x 83 30 = some 97 := rfl
theorem wn_83_31 {x : XM} : wire x 83 31 = none := rfl
theorem wr_83_32 {x : XM} : wire x 83 32 = some 98 := rfl
theorem wn_83_33 {x : XM} : wire x 83 33 = none := rfl
theorem wr_83_34 {x : XM} : wire x 83 34 = some 99 := rfl
theorem wr_83_35 {x : XM} : wire x 83 35 = some 100 := rfl
theorem wr_83_36 {x : XM} : wire x 83 36 = some 101 := rfl
theorem wr_83_37 {x : XM} : wire x 83 37 = some 102 := rfl
theorem wn_83_38 {x : XM} : wire x 83 38 = none := rfl
theorem ly_84 : lay 84 = (22, 240) := rfl
theorem ly_85 : lay 85 = (20, 48) := rfl
theorem ly_86 : lay 86 = (20, 24) := rfl
theorem ly_87 : lay 87 = (20, 20) := rfl
theorem ly_88 : lay 88 = (20, 5) := rfl
theorem ly_89 : lay 89 = (20, 48) := rfl
theorem ly_90 : lay 90 = (20, 24) := rfl
theorem ly_91 : lay 91 = (20, 20) := rfl
theorem ly_92 : lay 92 = (20, 5) := rfl
theorem ly_93 : lay 93 = (20, 31) := rfl
theorem ly_94 : lay 94 = (20, 496) := rfl
theorem ly_95 : lay 95 = (20, 62) := rfl
theorem ly_96 : lay 96 = (20, 2) := rfl
theorem ly_97 : lay 97 = (21, 2) := rfl
theorem ly_98 : lay 98 = (21, 120) := rfl
theorem ly_99 : lay 99 = (20, 120) := rfl
theorem ly_100 : lay 100 = (20, 24576) := rfl
theorem ly_101 : lay 101 = (20, 15) := rfl
theorem ly_102 : lay 102 = (20, 15) := rfl
theorem cl_0 : ∃ T, vwCl[0]? = some (RX0, T, 2) := ⟨_, rfl⟩
theorem cl_1 : ∃ T, vwCl[1]? = some (RX1, T, 3) := ⟨_, rfl⟩
theorem cl_2 : ∃ T, vwCl[2]? = some (RX2, T, 4) := ⟨_, rfl⟩
theorem cl_3 : ∃ T, vwCl[3]? = some (RX3, T, 1) := ⟨_, rfl⟩
theorem cl_4 : ∃ T, vwCl[4]? = some (RX4, T, 4) := ⟨_, rfl⟩
theorem cl_5 : ∃ T, vwCl[5]? = some (RX5, T, 3) := ⟨_, rfl⟩
theorem cl_6 : ∃ T, vwCl[6]? = some (RX6, T, 4) := ⟨_, rfl⟩
theorem cl_7 : ∃ T, vwCl[7]? = some (RX7, T, 3) := ⟨_, rfl⟩
theorem cl_8 : ∃ T, vwCl[8]? = some (RX8, T, 3) := ⟨_, rfl⟩
theorem cl_9 : ∃ T, vwCl[9]? = some (RX9, T, 2) := ⟨_, rfl⟩
theorem cl_10 : ∃ T, vwCl[10]? = some (RX10, T, 10) := ⟨_, rfl⟩
theorem cl_11 : ∃ T, vwCl[11]? = some (RX11, T, 39) := ⟨_, rfl⟩
theorem cat_all {av : List Value} (h : av.all (fun w => w.category == 1) = true) : ∀ w ∈ av, w.category = 1 := fun w hw => by
  have := List.all_eq_true.mp h w hw
  simpa using this
theorem rgDiv {a b : Int} (ha : Rg a) (h0 : 0 ≤ a) (h1 : 0 < b) : Rg (a / b) := by
  have h2 : 0 ≤ a / b := Int.ediv_nonneg h0 (by omega)
  have h3 : a / b ≤ a := Int.ediv_le_self _ h0
  have := ha.2
  constructor <;> omega
theorem rgRem {a b : Int} (hb : Rg b) (h1 : 0 < b) : Rg (a % b) := by
  have h2 := Int.emod_nonneg a (show b ≠ 0 by omega)
  have h3 := Int.emod_lt_of_pos a h1
  have := hb.2
  constructor <;> omega
theorem lt0 {a : Int} (h : decide (0 < a) = true) : 0 < a := by simpa using h
theorem ibd {i N : Int} (h : (decide (0 ≤ i) && decide (i < N)) = true) : 0 ≤ i ∧ i < N := by simpa using h
theorem sumL {st : List Value} (h : Nat.ble (st.map fun v => v.category).sum 8 = true) : (st.map fun v => v.category).sum ≤ 8 := Nat.le_of_ble_eq_true h
