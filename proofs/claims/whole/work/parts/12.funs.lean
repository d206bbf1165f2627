def rmX1_init : Room := { frames := 1, cells := 2, slots := 34, locals := 20 }
def fX1_init  (X : Mem) (x0 : Nat) : Option (Mem) :=
  (Option.bind (some (mZ X)) fun q7 => (Option.bind (some (nA X 3 30)) fun X7 => (if mK X7 x0 = some (1, 0) then (Option.bind (some (mZ (wR X7 100 x0 (some q7)))) fun q15 => (Option.bind (some (nA (wR X7 100 x0 (some q7)) 1 4)) fun X15 => (if mK X15 x0 = some (1, 0) then (some (wR X15 101 x0 (some q15))) else none))) else none)))
def rmX8_init : Room := { frames := 1, cells := 0, slots := 0, locals := 20 }
def fX8_init (X0 : Mem)  (x0 : Nat) : Option (Unit) :=
  (some ())
def rmX2_init : Room := { frames := 1, cells := 2, slots := 32, locals := 20 }
def fX2_init  (X : Mem) (x0 : Nat) : Option (Mem) :=
  (Option.bind (some (mZ X)) fun q7 => (Option.bind (some (nA X 0 16)) fun X7 => (if mK X7 x0 = some (2, 0) then (Option.bind (some (mZ (wR X7 200 x0 (some q7)))) fun q15 => (Option.bind (some (nA (wR X7 200 x0 (some q7)) 0 16)) fun X15 => (if mK X15 x0 = some (2, 0) then (some (wR X15 201 x0 (some q15))) else none))) else none)))
def rmX7_init : Room := { frames := 2, cells := 7, slots := 325, locals := 40 }
def fX7_init  (X : Mem) (x0 : Nat) : Option (Mem) :=
  (Option.bind (some (mZ X)) fun q5 => (Option.bind (some (nO X 8)) fun X5 => (Option.bind (fX8_init X5 q5) fun _ => (if mK X5 x0 = some (7, 0) then (Option.bind (some (mZ (wR X5 700 x0 (some q5)))) fun q17 => (Option.bind (some (nA (wR X5 700 x0 (some q5)) 0 4)) fun X17 => (if mK X17 x0 = some (7, 0) then (Option.bind (some (mZ (wR X17 701 x0 (some q17)))) fun q26 => (Option.bind (some (nA (wR X17 701 x0 (some q17)) 0 270)) fun X26 => (if mK X26 x0 = some (7, 0) then (Option.bind (some (mZ (wR X26 702 x0 (some q26)))) fun q34 => (Option.bind (some (nA (wR X26 702 x0 (some q26)) 0 8)) fun X34 => (if mK X34 x0 = some (7, 0) then (Option.bind (some (mZ (wR X34 703 x0 (some q34)))) fun q40 => (Option.bind (some (nO (wR X34 703 x0 (some q34)) 2)) fun X40 => (Option.bind (fX2_init X40 q40) fun X44 => (if mK X44 x0 = some (7, 0) then (some (wR X44 704 x0 (some q40))) else none)))) else none))) else none))) else none))) else none))))
def rmX0_init : Room := { frames := 1, cells := 2, slots := 62, locals := 20 }
def fX0_init  (X : Mem) (x0 : Nat) : Option (Mem) :=
  (Option.bind (some (mZ X)) fun q7 => (Option.bind (some (nA X 0 31)) fun X7 => (if mK X7 x0 = some (0, 0) then (Option.bind (some (mZ (wR X7 0 x0 (some q7)))) fun q15 => (Option.bind (some (nA (wR X7 0 x0 (some q7)) 0 31)) fun X15 => (if mK X15 x0 = some (0, 0) then (some (wR X15 1 x0 (some q15))) else none))) else none)))
def rmX9_init : Room := { frames := 1, cells := 1, slots := 40, locals := 20 }
def fX9_init  (X : Mem) (x0 : Nat) : Option (Mem) :=
  (Option.bind (some (mZ X)) fun q7 => (Option.bind (some (nA X 2 40)) fun X7 => (if mK X7 x0 = some (9, 0) then (some (wI (wI (wR X7 900 x0 (some q7)) 901 x0 (20 : Int32)) 902 x0 (20 : Int32))) else none)))
def rmX11_init : Room := { frames := 3, cells := 22, slots := 578, locals := 60 }
def fX11_init  (X : Mem) (x0 : Nat) : Option (Mem) :=
  (Option.bind (some (mZ X)) fun q5 => (Option.bind (some (nO X 1)) fun X5 => (Option.bind (fX1_init X5 q5) fun X9 => (if mK X9 x0 = some (11, 0) then (Option.bind (some (mZ (wR X9 1100 x0 (some q5)))) fun q16 => (Option.bind (some (nO (wR X9 1100 x0 (some q5)) 7)) fun X16 => (Option.bind (fX7_init X16 q16) fun X20 => (if mK X20 x0 = some (11, 0) then (Option.bind (some (mZ (wR X20 1101 x0 (some q16)))) fun q27 => (Option.bind (some (nO (wR X20 1101 x0 (some q16)) 2)) fun X27 => (Option.bind (fX2_init X27 q27) fun X31 => (if mK X31 x0 = some (11, 0) then (Option.bind (some (mZ (wR X31 1102 x0 (some q27)))) fun q38 => (Option.bind (some (nO (wR X31 1102 x0 (some q27)) 0)) fun X38 => (Option.bind (fX0_init X38 q38) fun X42 => (if mK X42 x0 = some (11, 0) then (Option.bind (some (mZ (wR X42 1103 x0 (some q38)))) fun q49 => (Option.bind (some (nO (wR X42 1103 x0 (some q38)) 9)) fun X49 => (Option.bind (fX9_init X49 q49) fun X53 => (if mK X53 x0 = some (11, 0) then (Option.bind (some (mZ (wR X53 1104 x0 (some q49)))) fun q62 => (Option.bind (some (nA (wR X53 1104 x0 (some q49)) 4 30)) fun X62 => (if mK X62 x0 = some (11, 0) then (Option.bind (some (mZ (wR X62 1105 x0 (some q62)))) fun q71 => (Option.bind (some (nA (wR X62 1105 x0 (some q62)) 5 6)) fun X71 => (if mK X71 x0 = some (11, 0) then (Option.bind (some (mZ (wR X71 1106 x0 (some q71)))) fun q80 => (Option.bind (some (nA (wR X71 1106 x0 (some q71)) 6 24)) fun X80 => (if mK X80 x0 = some (11, 0) then (some (wR X80 1107 x0 (some q80))) else none))) else none))) else none))) else none)))) else none)))) else none)))) else none)))) else none))))
def rmX11_checkName : Room := { frames := 6, cells := 1, slots := 6, locals := 90 }
def fX11_checkName (X0 : Mem)  (x0 : Int32) : Option (String ⊕ (Unit)) :=
  (if x0 < 0 then (some (.inl "java/lang/IndexOutOfBoundsException")) else (if x0 < (4 : Int32) then (some (.inr ())) else (some (.inl "java/lang/IndexOutOfBoundsException"))))
def rmX11_checkValue : Room := { frames := 7, cells := 2, slots := 12, locals := 110 }
def fX11_checkValue (X0 : Mem)  (x0 : Int32) (x1 : Int32) (x2 : Int32) : Option (String ⊕ (Unit)) :=
  (if x1 = 0 then (if x0 < x2 then (some (.inl "java/lang/IllegalArgumentException")) else (if x0 ≤ (99 : Int32) then (some (.inr ())) else (some (.inl "java/lang/IllegalArgumentException")))) else (bE (fX11_checkName X0 x0) fun v5 => (some (.inr ()))))
def rmX1_length : Room := { frames := 0, cells := 0, slots := 0, locals := 0 }
def fX1_length (X0 : Mem)  (x0 : Nat) : Option (Int32) :=
  (if mK X0 x0 = some (1, 0) then (some (mI X0 102 x0)) else none)
def rmX4_init : Room := { frames := 1, cells := 0, slots := 0, locals := 20 }
def fX4_init  (X : Mem) (x0 : Nat) (x1 : Int32) (x2 : Int32) (x3 : Int32) (x4 : Int32) : Option (Mem) :=
  (if mK X x0 = some (4, 0) then (if x4 = 0 ∨ x4 = 1 then (some (wI (wI (wI (wI X 400 x0 x1) 401 x0 x2) 402 x0 x3) 403 x0 x4)) else none) else none)
def rmX4_opensBlock : Room := { frames := 0, cells := 0, slots := 0, locals := 0 }
def fX4_opensBlock (X0 : Mem)  (x0 : Nat) : Option (Int32) :=
  (if mK X0 x0 = some (4, 0) then (if (mI X0 400 x0) = (5 : Int32) then (some (1 : Int32)) else (if (mI X0 400 x0) = (6 : Int32) then (some (1 : Int32)) else (some (0 : Int32)))) else none)
def rmX1_append : Room := { frames := 1, cells := 0, slots := 0, locals := 20 }
def fX1_append_L79  (X : Mem) (x0 : Nat) (x1 : Nat) : Option (Mem) :=
  (if mK X x1 = some (4, 0) then (if (mI X 400 x1) = (6 : Int32) then (if (mI X 401 x1) < 0 then (some X) else (if mK X x0 = some (1, 0) then (Option.bind (mR X 101 x0) fun a103_3 => (Option.bind (alen X a103_3) fun n103_3 => (if (nI n103_3) ≤ (mI X 401 x1) then (some X) else (Option.bind (mR X 101 x0) fun a116_5 => (if inb X 1 a116_5 (mI X 401 x1) = true then (some (sI X a116_5 (mI X 401 x1).toNatClampNeg (1 : Int32))) else none))))) else none)) else (some X)) else none)
def fX1_append  (X : Mem) (x0 : Nat) (x1 : Option Nat) : Option (Mem) :=
  (if mK X x0 = some (1, 0) then (if (mI X 102 x0) < 0 then (some X) else (Option.bind (mR X 100 x0) fun a15_2 => (Option.bind (alen X a15_2) fun n15_2 => (if (mI X 102 x0) < (nI n15_2) then (Option.bind (mR X 100 x0) fun a29_4 => (if inb X 3 a29_4 (mI X 102 x0) = true then (Option.bind x1 fun a29_5 => (if mK X a29_5 = some (4, 0) then (Option.bind (fX4_opensBlock (wI (sR X a29_4 (mI X 102 x0).toNatClampNeg (some a29_5)) 102 x0 ((mI (sR X a29_4 (mI X 102 x0).toNatClampNeg (some a29_5)) 102 x0) + (1 : Int32))) a29_5) fun v41 => (if v41 = 0 then (if (mI (wI (sR X a29_4 (mI X 102 x0).toNatClampNeg (some a29_5)) 102 x0 ((mI (sR X a29_4 (mI X 102 x0).toNatClampNeg (some a29_5)) 102 x0) + (1 : Int32))) 400 a29_5) = (8 : Int32) then (fX1_append_L79 (wI (wI (sR X a29_4 (mI X 102 x0).toNatClampNeg (some a29_5)) 102 x0 ((mI (sR X a29_4 (mI X 102 x0).toNatClampNeg (some a29_5)) 102 x0) + (1 : Int32))) 103 x0 ((mI (wI (sR X a29_4 (mI X 102 x0).toNatClampNeg (some a29_5)) 102 x0 ((mI (sR X a29_4 (mI X 102 x0).toNatClampNeg (some a29_5)) 102 x0) + (1 : Int32))) 103 x0) - (1 : Int32))) x0 a29_5) else (fX1_append_L79 (wI (sR X a29_4 (mI X 102 x0).toNatClampNeg (some a29_5)) 102 x0 ((mI (sR X a29_4 (mI X 102 x0).toNatClampNeg (some a29_5)) 102 x0) + (1 : Int32))) x0 a29_5)) else (fX1_append_L79 (wI (wI (sR X a29_4 (mI X 102 x0).toNatClampNeg (some a29_5)) 102 x0 ((mI (sR X a29_4 (mI X 102 x0).toNatClampNeg (some a29_5)) 102 x0) + (1 : Int32))) 103 x0 ((mI (wI (sR X a29_4 (mI X 102 x0).toNatClampNeg (some a29_5)) 102 x0 ((mI (sR X a29_4 (mI X 102 x0).toNatClampNeg (some a29_5)) 102 x0) + (1 : Int32))) 103 x0) + (1 : Int32))) x0 a29_5))) else none)) else none)) else (some X))))) else none)
def rmX11_addOrder : Room := { frames := 6, cells := 2, slots := 10, locals := 90 }
def fX11_addOrder  (X0 : Mem) (x0 : Nat) (x1 : Int32) (x2 : Int32) (x3 : Int32) (x4 : Int32) : Option (String ⊕ (Int32 × Mem)) :=
  (if mK X0 x0 = some (11, 0) then (Option.bind (mR X0 1100 x0) fun a4_2 => (if mK X0 a4_2 = some (1, 0) then (Option.bind (fX1_length X0 a4_2) fun v4 => (if v4 < (30 : Int32) then (Option.bind (some (mZ X0)) fun q27 => (Option.bind (some (nO X0 4)) fun X27 => (Option.bind (fX4_init X27 q27 x1 x2 x3 x4) fun X36 => (Option.bind (mR X0 1100 x0) fun a39_4 => (if mK X36 a39_4 = some (1, 0) then (Option.bind (fX1_append X36 a39_4 (some q27)) fun X39 => (if mK X39 x0 = some (11, 0) then (Option.bind (mR X39 1100 x0) fun a46_7 => (if mK X39 a46_7 = some (1, 0) then (Option.bind (fX1_length X39 a46_7) fun v46 => (some (.inr (v46, X39)))) else none)) else none)) else none))))) else (some (.inl "java/lang/IllegalStateException")))) else none)) else none)
def rmX11_forward : Room := { frames := 8, cells := 4, slots := 22, locals := 132 }
def fX11_forward  (X0 : Mem) (x0 : Nat) (x1 : Int32) (x2 : Int32) : Option (String ⊕ (Int32 × Mem)) :=
  (bE (fX11_checkValue X0 x1 x2 (0 : Int32)) fun v3 => (if mK X0 x0 = some (11, 0) then (bEW (fX11_addOrder X0 x0 (0 : Int32) (0 : Int32) x1 x2) fun v11 X11 => (some (.inr (v11, X11)))) else none))
def rmX11_turn : Room := { frames := 8, cells := 4, slots := 22, locals := 132 }
def fX11_turn  (X0 : Mem) (x0 : Nat) (x1 : Int32) (x2 : Int32) : Option (String ⊕ (Int32 × Mem)) :=
  (bE (fX11_checkValue X0 x1 x2 (0 : Int32)) fun v3 => (if mK X0 x0 = some (11, 0) then (bEW (fX11_addOrder X0 x0 (1 : Int32) (0 : Int32) x1 x2) fun v11 X11 => (some (.inr (v11, X11)))) else none))
def rmX11_pen : Room := { frames := 7, cells := 2, slots := 10, locals := 114 }
def fX11_pen_L12  (X0 : Mem) (s0 : Nat) (s1 : Int32) (s2 : Int32) (s3 : Int32) : Option (String ⊕ (Int32 × Mem)) :=
  (if mK X0 s0 = some (11, 0) then (bEW (fX11_addOrder X0 s0 s1 s2 s3 (0 : Int32)) fun v13 X13 => (some (.inr (v13, X13)))) else none)
def fX11_pen  (X0 : Mem) (x0 : Nat) (x1 : Int32) : Option (String ⊕ (Int32 × Mem)) :=
  (if x1 = 0 then (fX11_pen_L12 X0 x0 (2 : Int32) (0 : Int32) (0 : Int32)) else (fX11_pen_L12 X0 x0 (2 : Int32) (0 : Int32) (1 : Int32)))
def rmX11_set : Room := { frames := 8, cells := 5, slots := 28, locals := 132 }
def fX11_set  (X0 : Mem) (x0 : Nat) (x1 : Int32) (x2 : Int32) (x3 : Int32) : Option (String ⊕ (Int32 × Mem)) :=
  (bE (fX11_checkName X0 x1) fun v1 => (bE (fX11_checkValue X0 x2 x3 (-99)) fun v8 => (if mK X0 x0 = some (11, 0) then (bEW (fX11_addOrder X0 x0 (3 : Int32) x1 x2 x3) fun v16 X16 => (some (.inr (v16, X16)))) else none)))
def rmX11_add : Room := { frames := 8, cells := 5, slots := 28, locals := 132 }
def fX11_add  (X0 : Mem) (x0 : Nat) (x1 : Int32) (x2 : Int32) (x3 : Int32) : Option (String ⊕ (Int32 × Mem)) :=
  (bE (fX11_checkName X0 x1) fun v1 => (bE (fX11_checkValue X0 x2 x3 (-99)) fun v8 => (if mK X0 x0 = some (11, 0) then (bEW (fX11_addOrder X0 x0 (4 : Int32) x1 x2 x3) fun v16 X16 => (some (.inr (v16, X16)))) else none)))
def rmX11_repeat : Room := { frames := 8, cells := 4, slots := 22, locals := 132 }
def fX11_repeat  (X0 : Mem) (x0 : Nat) (x1 : Int32) (x2 : Int32) : Option (String ⊕ (Int32 × Mem)) :=
  (bE (fX11_checkValue X0 x1 x2 (0 : Int32)) fun v3 => (if mK X0 x0 = some (11, 0) then (bEW (fX11_addOrder X0 x0 (5 : Int32) (0 : Int32) x1 x2) fun v11 X11 => (some (.inr (v11, X11)))) else none))
def rmX11_checkWord : Room := { frames := 6, cells := 1, slots := 6, locals := 90 }
def fX11_checkWord (X0 : Mem)  (x0 : Int32) : Option (String ⊕ (Unit)) :=
  (if x0 < 0 then (some (.inl "java/lang/IndexOutOfBoundsException")) else (if x0 < (4 : Int32) then (some (.inr ())) else (some (.inl "java/lang/IndexOutOfBoundsException"))))
def rmX1_openBlocks : Room := { frames := 0, cells := 0, slots := 0, locals := 0 }
def fX1_openBlocks (X0 : Mem)  (x0 : Nat) : Option (Int32) :=
  (if mK X0 x0 = some (1, 0) then (some (mI X0 103 x0)) else none)
def rmX1_tells : Room := { frames := 0, cells := 0, slots := 0, locals := 0 }
def fX1_tells (X0 : Mem)  (x0 : Nat) (x1 : Int32) : Option (Int32) :=
  (if x1 < 0 then (some (0 : Int32)) else (if mK X0 x0 = some (1, 0) then (Option.bind (mR X0 101 x0) fun a9_2 => (Option.bind (alen X0 a9_2) fun n9_2 => (if (nI n9_2) ≤ x1 then (some (0 : Int32)) else (Option.bind (mR X0 101 x0) fun a18_4 => (if inb X0 1 a18_4 x1 = true then (if (aI X0 a18_4 x1.toNatClampNeg) = 0 then (some (0 : Int32)) else (some (1 : Int32))) else none))))) else none))
def rmX11_word : Room := { frames := 7, cells := 4, slots := 22, locals := 114 }
def fX11_word  (X0 : Mem) (x0 : Nat) (x1 : Int32) : Option (String ⊕ (Int32 × Mem)) :=
  (bE (fX11_checkWord X0 x1) fun v1 => (if mK X0 x0 = some (11, 0) then (Option.bind (mR X0 1100 x0) fun a8_2 => (if mK X0 a8_2 = some (1, 0) then (Option.bind (fX1_openBlocks X0 a8_2) fun v8 => (if 0 < v8 then (some (.inl "java/lang/IllegalStateException")) else (Option.bind (mR X0 1100 x0) fun a19_4 => (if mK X0 a19_4 = some (1, 0) then (Option.bind (fX1_tells X0 a19_4 x1) fun v19 => (if v19 = 0 then (bEW (fX11_addOrder X0 x0 (6 : Int32) x1 (0 : Int32) (0 : Int32)) fun v41 X41 => (some (.inr (v41, X41)))) else (some (.inl "java/lang/IllegalStateException")))) else none)))) else none)) else none))
def rmX11_call : Room := { frames := 7, cells := 3, slots := 16, locals := 114 }
def fX11_call  (X0 : Mem) (x0 : Nat) (x1 : Int32) : Option (String ⊕ (Int32 × Mem)) :=
  (bE (fX11_checkWord X0 x1) fun v1 => (if mK X0 x0 = some (11, 0) then (bEW (fX11_addOrder X0 x0 (7 : Int32) x1 (0 : Int32) (0 : Int32)) fun v10 X10 => (some (.inr (v10, X10)))) else none))
def rmX11_end : Room := { frames := 7, cells := 3, slots := 16, locals := 114 }
def fX11_end  (X0 : Mem) (x0 : Nat) : Option (String ⊕ (Int32 × Mem)) :=
  (if mK X0 x0 = some (11, 0) then (Option.bind (mR X0 1100 x0) fun a4_2 => (if mK X0 a4_2 = some (1, 0) then (Option.bind (fX1_openBlocks X0 a4_2) fun v4 => (if 0 < v4 then (bEW (fX11_addOrder X0 x0 (8 : Int32) (0 : Int32) (0 : Int32) (0 : Int32)) fun v26 X26 => (if mK X26 x0 = some (11, 0) then (Option.bind (mR X26 1100 x0) fun a34_5 => (if mK X26 a34_5 = some (1, 0) then (Option.bind (fX1_openBlocks X26 a34_5) fun v34 => (some (.inr (v34, X26)))) else none)) else none)) else (some (.inl "java/lang/IllegalStateException")))) else none)) else none)
def rmX1_makeEmpty : Room := { frames := 0, cells := 0, slots := 0, locals := 0 }
def fX1_makeEmpty_L12b (fu : Nat) (rec12 : Mem → Nat → Int32 → Option (Mem)) (X : Mem) (x0 : Nat) (x1 : Int32) : Option (Mem) :=
  (if mK X x0 = some (1, 0) then (Option.bind (mR X 101 x0) fun a17_2 => (Option.bind (alen X a17_2) fun n17_2 => (if (nI n17_2) ≤ x1 then (some X) else (Option.bind (mR X 101 x0) fun a27_4 => (if inb X 1 a27_4 x1 = true then (rec12 (sI X a27_4 x1.toNatClampNeg (0 : Int32)) x0 (x1 + (1 : Int32))) else none))))) else none)
def fX1_makeEmpty_L12 (fu : Nat)  : Nat → Mem → Nat → Int32 → Option (Mem)
  | 0 => fun _ _ _ => none
  | n + 1 => fun X x0 x1 => fX1_makeEmpty_L12b fu (fX1_makeEmpty_L12 fu n) X x0 x1
def fX1_makeEmpty (fu : Nat)  (X : Mem) (x0 : Nat) : Option (Mem) :=
  (if mK X x0 = some (1, 0) then (fX1_makeEmpty_L12 fu fu (wI (wI X 102 x0 (0 : Int32)) 103 x0 (0 : Int32)) x0 (0 : Int32)) else none)
def rmX11_wipe : Room := { frames := 1, cells := 0, slots := 0, locals := 21 }
def fX11_wipe (fu : Nat)  (X : Mem) (x0 : Nat) : Option (Int32 × Mem) :=
  (if mK X x0 = some (11, 0) then (Option.bind (mR X 1100 x0) fun a4_2 => (if mK X a4_2 = some (1, 0) then (Option.bind (fX1_length X a4_2) fun v4 => (Option.bind (mR X 1100 x0) fun a12_4 => (if mK X a12_4 = some (1, 0) then (Option.bind (fX1_makeEmpty fu X a12_4) fun X12 => (some (v4, X12))) else none))) else none)) else none)
def rmX11_checkPupil : Room := { frames := 6, cells := 1, slots := 6, locals := 90 }
def fX11_checkPupil (X0 : Mem)  (x0 : Int32) : Option (String ⊕ (Unit)) :=
  (if x0 < 0 then (some (.inl "java/lang/IndexOutOfBoundsException")) else (if x0 < (6 : Int32) then (some (.inr ())) else (some (.inl "java/lang/IndexOutOfBoundsException"))))
def rmX1_orderAt : Room := { frames := 0, cells := 0, slots := 0, locals := 0 }
def fX1_orderAt (X0 : Mem)  (x0 : Nat) (x1 : Int32) : Option (Option Nat) :=
  (if x1 < 0 then (some none) else (if mK X0 x0 = some (1, 0) then (if (mI X0 102 x0) ≤ x1 then (some none) else (Option.bind (mR X0 100 x0) fun a17_2 => (Option.bind (alen X0 a17_2) fun n17_2 => (if (nI n17_2) ≤ x1 then (some none) else (Option.bind (mR X0 100 x0) fun a26_4 => (if inb X0 3 a26_4 x1 = true then (some (aR X0 a26_4 x1.toNatClampNeg)) else none)))))) else none))
def rmX5_orderAt : Room := { frames := 0, cells := 0, slots := 0, locals := 0 }
def fX5_orderAt (X0 : Mem)  (x0 : Nat) (x1 : Int32) : Option (Option Nat) :=
  (if x1 < 0 then (some none) else (if mK X0 x0 = some (5, 0) then (Option.bind (mR X0 501 x0) fun a9_2 => (Option.bind (alen X0 a9_2) fun n9_2 => (if (nI n9_2) ≤ x1 then (some none) else (Option.bind (mR X0 501 x0) fun a18_4 => (if inb X0 3 a18_4 x1 = true then (some (aR X0 a18_4 x1.toNatClampNeg)) else none))))) else none))
def rmX5_partnerOf : Room := { frames := 0, cells := 0, slots := 0, locals := 0 }
def fX5_partnerOf (X0 : Mem)  (x0 : Nat) (x1 : Int32) : Option (Int32) :=
  (if x1 < 0 then (some (-1)) else (if mK X0 x0 = some (5, 0) then (Option.bind (mR X0 502 x0) fun a9_2 => (Option.bind (alen X0 a9_2) fun n9_2 => (if (nI n9_2) ≤ x1 then (some (-1)) else (Option.bind (mR X0 502 x0) fun a18_4 => (if inb X0 0 a18_4 x1 = true then (some (aI X0 a18_4 x1.toNatClampNeg)) else none))))) else none))
def rmX5_lastOpenAhead : Room := { frames := 1, cells := 0, slots := 0, locals := 21 }
def fX5_lastOpenAhead_L36 (fu : Nat) (X0 : Mem) (rec4 : Nat → Int32 → Option (Int32)) (x0 : Nat) (x2 : Int32) : Option (Int32) :=
  (rec4 x0 (x2 + (-1)))
def fX5_lastOpenAhead_L4b (fu : Nat) (X0 : Mem) (rec4 : Nat → Int32 → Option (Int32)) (x0 : Nat) (x2 : Int32) : Option (Int32) :=
  (if x2 < 0 then (some (-1)) else (if mK X0 x0 = some (5, 0) then (Option.bind (fX5_orderAt X0 x0 x2) fun v10 => (if v10 = none then (fX5_lastOpenAhead_L36 fu X0 rec4 x0 x2) else (Option.bind v10 fun a19_2 => (if mK X0 a19_2 = some (4, 0) then (Option.bind (fX4_opensBlock X0 a19_2) fun v19 => (if v19 = 0 then (fX5_lastOpenAhead_L36 fu X0 rec4 x0 x2) else (Option.bind (fX5_partnerOf X0 x0 x2) fun v27 => (if v27 = (-1) then (some x2) else (fX5_lastOpenAhead_L36 fu X0 rec4 x0 x2))))) else none)))) else none))
def fX5_lastOpenAhead_L4 (fu : Nat) (X0 : Mem)  : Nat → Nat → Int32 → Option (Int32)
  | 0 => fun _ _ => none
  | n + 1 => fun x0 x2 => fX5_lastOpenAhead_L4b fu X0 (fX5_lastOpenAhead_L4 fu X0 n) x0 x2
def fX5_lastOpenAhead (fu : Nat) (X0 : Mem)  (x0 : Nat) (x1 : Int32) : Option (Int32) :=
  (fX5_lastOpenAhead_L4 fu X0 fu x0 (x1 - (1 : Int32)))
def rmX5_pairBlocks : Room := { frames := 2, cells := 0, slots := 0, locals := 44 }
def fX5_pairBlocks_L80 (fu : Nat) (rec2 : Mem → Nat → Int32 → Option (Mem)) (X : Mem) (x0 : Nat) (x1 : Int32) : Option (Mem) :=
  (rec2 X x0 (x1 + (1 : Int32)))
def fX5_pairBlocks_L2b (fu : Nat) (rec2 : Mem → Nat → Int32 → Option (Mem)) (X : Mem) (x0 : Nat) (x1 : Int32) : Option (Mem) :=
  (if mK X x0 = some (5, 0) then (Option.bind (mR X 501 x0) fun a7_2 => (Option.bind (alen X a7_2) fun n7_2 => (if (nI n7_2) ≤ x1 then (some X) else (Option.bind (mR X 502 x0) fun a16_4 => (Option.bind (alen X a16_4) fun n16_4 => (if (nI n16_4) ≤ x1 then (some X) else (Option.bind (mR X 502 x0) fun a26_6 => (if inb X 0 a26_6 x1 = true then (Option.bind (mR (sI X a26_6 x1.toNatClampNeg (-1)) 501 x0) fun a32_7 => (if inb (sI X a26_6 x1.toNatClampNeg (-1)) 3 a32_7 x1 = true then (if (aR (sI X a26_6 x1.toNatClampNeg (-1)) a32_7 x1.toNatClampNeg) = none then (fX5_pairBlocks_L80 fu rec2 (sI X a26_6 x1.toNatClampNeg (-1)) x0 x1) else (Option.bind (aR (sI X a26_6 x1.toNatClampNeg (-1)) a32_7 x1.toNatClampNeg) fun a39_8 => (if mK (sI X a26_6 x1.toNatClampNeg (-1)) a39_8 = some (4, 0) then (if (mI (sI X a26_6 x1.toNatClampNeg (-1)) 400 a39_8) = (8 : Int32) then (Option.bind (fX5_lastOpenAhead fu (sI X a26_6 x1.toNatClampNeg (-1)) x0 x1) fun v49 => (if v49 < 0 then (fX5_pairBlocks_L80 fu rec2 (sI X a26_6 x1.toNatClampNeg (-1)) x0 x1) else (Option.bind (mR (sI X a26_6 x1.toNatClampNeg (-1)) 502 x0) fun a62_10 => (Option.bind (alen (sI X a26_6 x1.toNatClampNeg (-1)) a62_10) fun n62_10 => (if (nI n62_10) ≤ v49 then (fX5_pairBlocks_L80 fu rec2 (sI X a26_6 x1.toNatClampNeg (-1)) x0 x1) else (Option.bind (mR (sI X a26_6 x1.toNatClampNeg (-1)) 502 x0) fun a72_12 => (if inb (sI X a26_6 x1.toNatClampNeg (-1)) 0 a72_12 v49 = true then (Option.bind (mR (sI (sI X a26_6 x1.toNatClampNeg (-1)) a72_12 v49.toNatClampNeg x1) 502 x0) fun a79_13 => (if inb (sI (sI X a26_6 x1.toNatClampNeg (-1)) a72_12 v49.toNatClampNeg x1) 0 a79_13 x1 = true then (fX5_pairBlocks_L80 fu rec2 (sI (sI (sI X a26_6 x1.toNatClampNeg (-1)) a72_12 v49.toNatClampNeg x1) a79_13 x1.toNatClampNeg v49) x0 x1) else none)) else none))))))) else (fX5_pairBlocks_L80 fu rec2 (sI X a26_6 x1.toNatClampNeg (-1)) x0 x1)) else none))) else none)) else none)))))))) else none)
def fX5_pairBlocks_L2 (fu : Nat)  : Nat → Mem → Nat → Int32 → Option (Mem)
  | 0 => fun _ _ _ => none
  | n + 1 => fun X x0 x1 => fX5_pairBlocks_L2b fu (fX5_pairBlocks_L2 fu n) X x0 x1
def fX5_pairBlocks (fu : Nat)  (X : Mem) (x0 : Nat) : Option (Mem) :=
  (fX5_pairBlocks_L2 fu fu X x0 (0 : Int32))
def rmX5_findWords : Room := { frames := 0, cells := 0, slots := 0, locals := 0 }
def fX5_findWords_L60 (fu : Nat) (rec2 : Mem → Nat → Int32 → Option (Mem)) (X : Mem) (x0 : Nat) (x1 : Int32) : Option (Mem) :=
  (rec2 X x0 (x1 + (1 : Int32)))
def fX5_findWords_L2b (fu : Nat) (rec2 : Mem → Nat → Int32 → Option (Mem)) (X : Mem) (x0 : Nat) (x1 : Int32) : Option (Mem) :=
  (if mK X x0 = some (5, 0) then (Option.bind (mR X 501 x0) fun a7_2 => (Option.bind (alen X a7_2) fun n7_2 => (if (nI n7_2) ≤ x1 then (some X) else (Option.bind (mR X 501 x0) fun a16_4 => (if inb X 3 a16_4 x1 = true then (if (aR X a16_4 x1.toNatClampNeg) = none then (fX5_findWords_L60 fu rec2 X x0 x1) else (Option.bind (aR X a16_4 x1.toNatClampNeg) fun a23_5 => (if mK X a23_5 = some (4, 0) then (if (mI X 400 a23_5) = (6 : Int32) then (if (mI X 401 a23_5) < 0 then (fX5_findWords_L60 fu rec2 X x0 x1) else (Option.bind (mR X 503 x0) fun a46_7 => (Option.bind (alen X a46_7) fun n46_7 => (if (nI n46_7) ≤ (mI X 401 a23_5) then (fX5_findWords_L60 fu rec2 X x0 x1) else (Option.bind (mR X 503 x0) fun a59_9 => (if inb X 0 a59_9 (mI X 401 a23_5) = true then (fX5_findWords_L60 fu rec2 (sI X a59_9 (mI X 401 a23_5).toNatClampNeg x1) x0 x1) else none)))))) else (fX5_findWords_L60 fu rec2 X x0 x1)) else none))) else none))))) else none)
def fX5_findWords_L2 (fu : Nat)  : Nat → Mem → Nat → Int32 → Option (Mem)
  | 0 => fun _ _ _ => none
  | n + 1 => fun X x0 x1 => fX5_findWords_L2b fu (fX5_findWords_L2 fu n) X x0 x1
def fX5_findWords (fu : Nat)  (X : Mem) (x0 : Nat) : Option (Mem) :=
  (fX5_findWords_L2 fu fu X x0 (0 : Int32))
def rmX6_init : Room := { frames := 1, cells := 1, slots := 4, locals := 20 }
def fX6_init_L13b (fu : Nat) (rec13 : Mem → Nat → Int32 → Option (Mem)) (X : Mem) (x0 : Nat) (x1 : Int32) : Option (Mem) :=
  (if mK X x0 = some (6, 0) then (Option.bind (mR X 600 x0) fun a18_2 => (Option.bind (alen X a18_2) fun n18_2 => (if (nI n18_2) ≤ x1 then (some X) else (Option.bind (mR X 600 x0) fun a28_4 => (if inb X 0 a28_4 x1 = true then (rec13 (sI X a28_4 x1.toNatClampNeg (-1)) x0 (x1 + (1 : Int32))) else none))))) else none)
def fX6_init_L13 (fu : Nat)  : Nat → Mem → Nat → Int32 → Option (Mem)
  | 0 => fun _ _ _ => none
  | n + 1 => fun X x0 x1 => fX6_init_L13b fu (fX6_init_L13 fu n) X x0 x1
def fX6_init (fu : Nat)  (X : Mem) (x0 : Nat) : Option (Mem) :=
  (Option.bind (some (mZ X)) fun q6 => (Option.bind (some (nA X 0 4)) fun X6 => (if mK X6 x0 = some (6, 0) then (fX6_init_L13 fu fu (wR X6 600 x0 (some q6)) x0 (0 : Int32)) else none)))
def rmX6_numberOf : Room := { frames := 0, cells := 0, slots := 0, locals := 0 }
def fX6_numberOf  (X : Mem) (x0 : Nat) (x1 : Int32) : Option (Int32 × Mem) :=
  (if x1 < 0 then (some ((-1), X)) else (if mK X x0 = some (6, 0) then (Option.bind (mR X 600 x0) fun a9_2 => (Option.bind (alen X a9_2) fun n9_2 => (if x1 < (nI n9_2) then (Option.bind (mR X 600 x0) fun a20_4 => (if inb X 0 a20_4 x1 = true then (if (aI X a20_4 x1.toNatClampNeg) = (-1) then (Option.bind (mR X 600 x0) fun a34_6 => (if inb X 0 a34_6 x1 = true then (Option.bind (mR (wI (sI X a34_6 x1.toNatClampNeg (mI X 601 x0)) 601 x0 ((mI (sI X a34_6 x1.toNatClampNeg (mI X 601 x0)) 601 x0) + (1 : Int32))) 600 x0) fun a50_7 => (if inb (wI (sI X a34_6 x1.toNatClampNeg (mI X 601 x0)) 601 x0 ((mI (sI X a34_6 x1.toNatClampNeg (mI X 601 x0)) 601 x0) + (1 : Int32))) 0 a50_7 x1 = true then (some ((aI (wI (sI X a34_6 x1.toNatClampNeg (mI X 601 x0)) 601 x0 ((mI (sI X a34_6 x1.toNatClampNeg (mI X 601 x0)) 601 x0) + (1 : Int32))) a50_7 x1.toNatClampNeg), (wI (sI X a34_6 x1.toNatClampNeg (mI X 601 x0)) 601 x0 ((mI (sI X a34_6 x1.toNatClampNeg (mI X 601 x0)) 601 x0) + (1 : Int32))))) else none)) else none)) else (Option.bind (mR X 600 x0) fun a50_5 => (if inb X 0 a50_5 x1 = true then (some ((aI X a50_5 x1.toNatClampNeg), X)) else none))) else none)) else (some ((-1), X))))) else none))
def rmX5_codeOf : Room := { frames := 0, cells := 0, slots := 0, locals := 0 }
def fX5_codeOf_L22 (X0 : Mem)  (x2 : Int32) (s0 : Int32) (s1 : Int32) : Option (Int32) :=
  (some (((s0 ||| s1) <<< ((8 : Int32) &&& 31)) ||| (x2 + (99 : Int32))))
def fX5_codeOf (X0 : Mem)  (x0 : Option Nat) (x1 : Int32) (x2 : Int32) : Option (Int32) :=
  (Option.bind x0 fun a1_1 => (if mK X0 a1_1 = some (4, 0) then (if (mI X0 403 a1_1) = 0 then (fX5_codeOf_L22 X0 x2 (((mI X0 400 a1_1) <<< ((4 : Int32) &&& 31)) ||| (x1 <<< ((1 : Int32) &&& 31))) (0 : Int32)) else (fX5_codeOf_L22 X0 x2 (((mI X0 400 a1_1) <<< ((4 : Int32) &&& 31)) ||| (x1 <<< ((1 : Int32) &&& 31))) (1 : Int32))) else none))
def rmX5_buildForm : Room := { frames := 2, cells := 4, slots := 12, locals := 41 }
def fX5_buildForm_L157 (fu : Nat) (rec18 : Mem → Nat → Nat → Nat → Int32 → Option (Mem)) (X : Mem) (x0 : Nat) (x1 : Nat) (x2 : Nat) (x3 : Int32) : Option (Mem) :=
  (rec18 X x0 x1 x2 (x3 + (1 : Int32)))
def fX5_buildForm_L140 (fu : Nat) (rec18 : Mem → Nat → Nat → Nat → Int32 → Option (Mem)) (X : Mem) (x0 : Nat) (x1 : Nat) (x2 : Nat) (x3 : Int32) (x4 : Nat) (x5 : Int32) (s0 : Int32) : Option (Mem) :=
  (if mK X x0 = some (5, 0) then (Option.bind (fX5_codeOf X (some x4) x5 s0) fun v153 => (Option.bind (mR X 504 x0) fun a156_2 => (if inb X 0 a156_2 x3 = true then (fX5_buildForm_L157 fu rec18 (sI X a156_2 x3.toNatClampNeg v153) x0 x1 x2 x3) else none))) else none)
def fX5_buildForm_L115 (fu : Nat) (rec18 : Mem → Nat → Nat → Nat → Int32 → Option (Mem)) (X : Mem) (x0 : Nat) (x1 : Nat) (x2 : Nat) (x3 : Int32) (x4 : Nat) (x5 : Int32) : Option (Mem) :=
  (if mK X x4 = some (4, 0) then (if (mI X 403 x4) = 0 then (fX5_buildForm_L140 fu rec18 X x0 x1 x2 x3 x4 x5 (mI X 402 x4)) else (if mK X x1 = some (6, 0) then (bW (fX6_numberOf X x1 (mI X 402 x4)) fun v129 X129 => (fX5_buildForm_L140 fu rec18 X129 x0 x1 x2 x3 x4 x5 v129)) else none)) else none)
def fX5_buildForm_L70 (fu : Nat) (rec18 : Mem → Nat → Nat → Nat → Int32 → Option (Mem)) (X : Mem) (x0 : Nat) (x1 : Nat) (x2 : Nat) (x3 : Int32) (x4 : Nat) : Option (Mem) :=
  (if mK X x4 = some (4, 0) then (if mK X x1 = some (6, 0) then (bW (fX6_numberOf X x1 (mI X 401 x4)) fun v76 X76 => (fX5_buildForm_L115 fu rec18 X76 x0 x1 x2 x3 x4 v76)) else none) else none)
def fX5_buildForm_L104 (fu : Nat) (rec18 : Mem → Nat → Nat → Nat → Int32 → Option (Mem)) (X : Mem) (x0 : Nat) (x1 : Nat) (x2 : Nat) (x3 : Int32) (x4 : Nat) : Option (Mem) :=
  (if mK X x4 = some (4, 0) then (if mK X x2 = some (6, 0) then (bW (fX6_numberOf X x2 (mI X 401 x4)) fun v110 X110 => (fX5_buildForm_L115 fu rec18 X110 x0 x1 x2 x3 x4 v110)) else none) else none)
def fX5_buildForm_L18b (fu : Nat) (rec18 : Mem → Nat → Nat → Nat → Int32 → Option (Mem)) (X : Mem) (x0 : Nat) (x1 : Nat) (x2 : Nat) (x3 : Int32) : Option (Mem) :=
  (if mK X x0 = some (5, 0) then (Option.bind (mR X 501 x0) fun a23_2 => (Option.bind (alen X a23_2) fun n23_2 => (if (nI n23_2) ≤ x3 then (some X) else (Option.bind (mR X 504 x0) fun a32_4 => (Option.bind (alen X a32_4) fun n32_4 => (if (nI n32_4) ≤ x3 then (some X) else (Option.bind (mR X 501 x0) fun a41_6 => (if inb X 3 a41_6 x3 = true then (if (aR X a41_6 x3.toNatClampNeg) = none then (fX5_buildForm_L157 fu rec18 X x0 x1 x2 x3) else (Option.bind (aR X a41_6 x3.toNatClampNeg) fun a54_7 => (if mK X a54_7 = some (4, 0) then (if (mI X 400 a54_7) = (3 : Int32) then (fX5_buildForm_L70 fu rec18 X x0 x1 x2 x3 a54_7) else (if (mI X 400 a54_7) = (4 : Int32) then (fX5_buildForm_L70 fu rec18 X x0 x1 x2 x3 a54_7) else (if (mI X 400 a54_7) = (6 : Int32) then (fX5_buildForm_L104 fu rec18 X x0 x1 x2 x3 a54_7) else (if (mI X 400 a54_7) = (7 : Int32) then (fX5_buildForm_L104 fu rec18 X x0 x1 x2 x3 a54_7) else (fX5_buildForm_L115 fu rec18 X x0 x1 x2 x3 a54_7 (0 : Int32)))))) else none))) else none)))))))) else none)
def fX5_buildForm_L18 (fu : Nat)  : Nat → Mem → Nat → Nat → Nat → Int32 → Option (Mem)
  | 0 => fun _ _ _ _ _ => none
  | n + 1 => fun X x0 x1 x2 x3 => fX5_buildForm_L18b fu (fX5_buildForm_L18 fu n) X x0 x1 x2 x3
def fX5_buildForm (fu : Nat)  (X : Mem) (x0 : Nat) : Option (Mem) :=
  (Option.bind (some (mZ X)) fun q0 => (Option.bind (some (nO X 6)) fun X0 => (Option.bind (fX6_init fu X0 q0) fun X4 => (Option.bind (some (mZ X4)) fun q8 => (Option.bind (some (nO X4 6)) fun X8 => (Option.bind (fX6_init fu X8 q8) fun X12 => (fX5_buildForm_L18 fu fu X12 x0 q0 q8 (0 : Int32))))))))
def rmX5_init : Room := { frames := 3, cells := 11, slots := 151, locals := 67 }
def fX5_init_L95b (fu : Nat) (rec95 : Mem → Nat → Nat → Int32 → Option (Mem)) (X : Mem) (x0 : Nat) (x2 : Nat) (x4 : Int32) : Option (Mem) :=
  (if mK X x0 = some (5, 0) then (Option.bind (mR X 501 x0) fun a101_2 => (Option.bind (alen X a101_2) fun n101_2 => (if (nI n101_2) ≤ x4 then (Option.bind (fX5_pairBlocks fu X x0) fun X125 => (if mK X125 x0 = some (5, 0) then (Option.bind (fX5_findWords fu X125 x0) fun X129 => (if mK X129 x0 = some (5, 0) then (Option.bind (fX5_buildForm fu X129 x0) fun X133 => (some X133)) else none)) else none)) else (if mK X x2 = some (1, 0) then (Option.bind (fX1_orderAt X x2 x4) fun v114 => (Option.bind (mR X 501 x0) fun a117_7 => (if inb X 3 a117_7 x4 = true then (Option.bind v114 fun a117_8 => (if mK X a117_8 = some (4, 0) then (rec95 (sR X a117_7 x4.toNatClampNeg (some a117_8)) x0 x2 (x4 + (1 : Int32))) else none)) else none))) else none)))) else none)
def fX5_init_L95 (fu : Nat)  : Nat → Mem → Nat → Nat → Int32 → Option (Mem)
  | 0 => fun _ _ _ _ => none
  | n + 1 => fun X x0 x2 x4 => fX5_init_L95b fu (fX5_init_L95 fu n) X x0 x2 x4
def fX5_init_L68b (fu : Nat) (rec68 : Mem → Nat → Nat → Int32 → Option (Mem)) (X : Mem) (x0 : Nat) (x2 : Nat) (x4 : Int32) : Option (Mem) :=
  (if mK X x0 = some (5, 0) then (Option.bind (mR X 503 x0) fun a74_2 => (Option.bind (alen X a74_2) fun n74_2 => (if (nI n74_2) ≤ x4 then (fX5_init_L95 fu fu X x0 x2 (0 : Int32)) else (Option.bind (mR X 503 x0) fun a85_4 => (if inb X 0 a85_4 x4 = true then (rec68 (sI X a85_4 x4.toNatClampNeg (-1)) x0 x2 (x4 + (1 : Int32))) else none))))) else none)
def fX5_init_L68 (fu : Nat)  : Nat → Mem → Nat → Nat → Int32 → Option (Mem)
  | 0 => fun _ _ _ _ => none
  | n + 1 => fun X x0 x2 x4 => fX5_init_L68b fu (fX5_init_L68 fu n) X x0 x2 x4
def fX5_init_L19 (fu : Nat)  (X : Mem) (x0 : Nat) (x1 : Int32) (x2 : Nat) (s0 : Int32) : Option (Mem) :=
  (if mK X x0 = some (5, 0) then (if 0 ≤ s0 ∧ s0.toNatClampNeg ≤ 32 then (Option.bind (some (mZ (wI X 500 x0 x1))) fun q27 => (Option.bind (some (nA (wI X 500 x0 x1) 3 s0.toNatClampNeg)) fun X27 => (if mK X27 x0 = some (5, 0) then (if 0 ≤ s0 ∧ s0.toNatClampNeg ≤ 32 then (Option.bind (some (mZ (wR X27 501 x0 (some q27)))) fun q35 => (Option.bind (some (nA (wR X27 501 x0 (some q27)) 0 s0.toNatClampNeg)) fun X35 => (if mK X35 x0 = some (5, 0) then (if 0 ≤ s0 ∧ s0.toNatClampNeg ≤ 32 then (Option.bind (some (mZ (wR X35 502 x0 (some q35)))) fun q42 => (Option.bind (some (nA (wR X35 502 x0 (some q35)) 0 s0.toNatClampNeg)) fun X42 => (if mK X42 x0 = some (5, 0) then (Option.bind (some (mZ (wR X42 504 x0 (some q42)))) fun q49 => (Option.bind (some (nA (wR X42 504 x0 (some q42)) 0 4)) fun X49 => (if mK X49 x0 = some (5, 0) then (Option.bind (some (mZ (wR X49 503 x0 (some q49)))) fun q55 => (Option.bind (some (nO (wR X49 503 x0 (some q49)) 2)) fun X55 => (Option.bind (fX2_init X55 q55) fun X59 => (if mK X59 x0 = some (5, 0) then (fX5_init_L68 fu fu (wR X59 505 x0 (some q55)) x0 x2 (0 : Int32)) else none)))) else none))) else none))) else none) else none))) else none) else none))) else none) else none)
def fX5_init (fu : Nat)  (X : Mem) (x0 : Nat) (x1 : Int32) (x2 : Option Nat) : Option (Mem) :=
  (Option.bind x2 fun a5_1 => (if mK X a5_1 = some (1, 0) then (Option.bind (fX1_length X a5_1) fun v5 => (if v5 ≤ 0 then (fX5_init_L19 fu X x0 x1 a5_1 (0 : Int32)) else (Option.bind (fX1_length X a5_1) fun v12 => (fX5_init_L19 fu X x0 x1 a5_1 v12)))) else none))
def rmX8_begin : Room := { frames := 0, cells := 0, slots := 0, locals := 0 }
def fX8_begin  (X : Mem) (x0 : Nat) : Option (Mem) :=
  (if mK X x0 = some (8, 0) then (some (wI (wI (wI (wI X 800 x0 (8 : Int32)) 801 x0 (8 : Int32)) 802 x0 (0 : Int32)) 803 x0 (1 : Int32))) else none)
def rmX5_length : Room := { frames := 0, cells := 0, slots := 0, locals := 0 }
def fX5_length (X0 : Mem)  (x0 : Nat) : Option (Int32) :=
  (if mK X0 x0 = some (5, 0) then (Option.bind (mR X0 501 x0) fun a4_2 => (Option.bind (alen X0 a4_2) fun n4_2 => (some (nI n4_2)))) else none)
def rmX7_leaveWord : Room := { frames := 0, cells := 0, slots := 0, locals := 0 }
def fX7_leaveWord  (X : Mem) (x0 : Nat) : Option (Int32 × Mem) :=
  (if mK X x0 = some (7, 0) then (if ((mI X 705 x0) - (1 : Int32)) < 0 then (some ((-1), X)) else (Option.bind (mR X 703 x0) fun a16_2 => (Option.bind (alen X a16_2) fun n16_2 => (if ((mI X 705 x0) - (1 : Int32)) < (nI n16_2) then (Option.bind (mR (wI X 705 x0 ((mI X 705 x0) - (1 : Int32))) 703 x0) fun a32_4 => (if inb (wI X 705 x0 ((mI X 705 x0) - (1 : Int32))) 0 a32_4 ((mI X 705 x0) - (1 : Int32)) = true then (some (((aI (wI X 705 x0 ((mI X 705 x0) - (1 : Int32))) a32_4 ((mI X 705 x0) - (1 : Int32)).toNatClampNeg) + (1 : Int32)), (wI X 705 x0 ((mI X 705 x0) - (1 : Int32))))) else none)) else (some ((-1), X)))))) else none)
def rmX7_closeBlock : Room := { frames := 1, cells := 0, slots := 0, locals := 21 }
def fX7_closeBlock_L33  (X : Mem) (x0 : Nat) (x2 : Int32) (x3 : Int32) : Option (Int32 × Mem) :=
  (if mK X x0 = some (7, 0) then (if (((mI X 705 x0) * (30 : Int32)) + x3) < 0 then (some ((-1), X)) else (Option.bind (mR X 702 x0) fun a55_2 => (Option.bind (alen X a55_2) fun n55_2 => (if (((mI X 705 x0) * (30 : Int32)) + x3) < (nI n55_2) then (Option.bind (mR X 702 x0) fun a68_4 => (if inb X 0 a68_4 (((mI X 705 x0) * (30 : Int32)) + x3) = true then (if inb X 0 a68_4 (((mI X 705 x0) * (30 : Int32)) + x3) = true then (Option.bind (mR (sI X a68_4 (((mI X 705 x0) * (30 : Int32)) + x3).toNatClampNeg ((aI X a68_4 (((mI X 705 x0) * (30 : Int32)) + x3).toNatClampNeg) - (1 : Int32))) 702 x0) fun a78_5 => (if inb (sI X a68_4 (((mI X 705 x0) * (30 : Int32)) + x3).toNatClampNeg ((aI X a68_4 (((mI X 705 x0) * (30 : Int32)) + x3).toNatClampNeg) - (1 : Int32))) 0 a78_5 (((mI X 705 x0) * (30 : Int32)) + x3) = true then (if (aI (sI X a68_4 (((mI X 705 x0) * (30 : Int32)) + x3).toNatClampNeg ((aI X a68_4 (((mI X 705 x0) * (30 : Int32)) + x3).toNatClampNeg) - (1 : Int32))) a78_5 (((mI X 705 x0) * (30 : Int32)) + x3).toNatClampNeg) ≤ 0 then (some ((x2 + (1 : Int32)), (sI X a68_4 (((mI X 705 x0) * (30 : Int32)) + x3).toNatClampNeg ((aI X a68_4 (((mI X 705 x0) * (30 : Int32)) + x3).toNatClampNeg) - (1 : Int32))))) else (some ((x3 + (1 : Int32)), (sI X a68_4 (((mI X 705 x0) * (30 : Int32)) + x3).toNatClampNeg ((aI X a68_4 (((mI X 705 x0) * (30 : Int32)) + x3).toNatClampNeg) - (1 : Int32)))))) else none)) else none) else none)) else (some ((-1), X)))))) else none)
def fX7_closeBlock  (X : Mem) (x0 : Nat) (x1 : Option Nat) (x2 : Int32) : Option (Int32 × Mem) :=
  (Option.bind x1 fun a2_1 => (if mK X a2_1 = some (5, 0) then (Option.bind (fX5_partnerOf X a2_1 x2) fun v2 => (Option.bind (fX5_orderAt X a2_1 v2) fun v8 => (if v8 = none then (fX7_closeBlock_L33 X x0 x2 v2) else (Option.bind v8 fun a20_3 => (if mK X a20_3 = some (4, 0) then (if (mI X 400 a20_3) = (6 : Int32) then (if mK X x0 = some (7, 0) then (bW (fX7_leaveWord X x0) fun v29 X29 => (some (v29, X29))) else none) else (fX7_closeBlock_L33 X x0 x2 v2)) else none))))) else none))
def rmX7_canCount : Room := { frames := 0, cells := 0, slots := 0, locals := 0 }
def fX7_canCount  (X : Mem) (x0 : Nat) : Option (Int32 × Mem) :=
  (if mK X x0 = some (7, 0) then (if (mI X 707 x0) < (mI X 706 x0) then (some ((1 : Int32), X)) else (some ((0 : Int32), (wI X 708 x0 (1 : Int32))))) else none)
def rmX7_nameAt : Room := { frames := 0, cells := 0, slots := 0, locals := 0 }
def fX7_nameAt (X0 : Mem)  (x0 : Nat) (x1 : Int32) : Option (Int32) :=
  (if x1 < 0 then (some (0 : Int32)) else (if mK X0 x0 = some (7, 0) then (Option.bind (mR X0 701 x0) fun a9_2 => (Option.bind (alen X0 a9_2) fun n9_2 => (if (nI n9_2) ≤ x1 then (some (0 : Int32)) else (Option.bind (mR X0 701 x0) fun a18_4 => (if inb X0 0 a18_4 x1 = true then (some (aI X0 a18_4 x1.toNatClampNeg)) else none))))) else none))
def rmX7_valueOf : Room := { frames := 1, cells := 0, slots := 0, locals := 21 }
def fX7_valueOf (X0 : Mem)  (x0 : Nat) (x1 : Option Nat) : Option (Int32) :=
  (Option.bind x1 fun a1_1 => (if mK X0 a1_1 = some (4, 0) then (if (mI X0 403 a1_1) = 0 then (some (mI X0 402 a1_1)) else (if mK X0 x0 = some (7, 0) then (Option.bind (fX7_nameAt X0 x0 (mI X0 402 a1_1)) fun v12 => (some v12)) else none)) else none))
def rmX8_aheadX : Room := { frames := 0, cells := 0, slots := 0, locals := 0 }
def fX8_aheadX (X0 : Mem)  (x0 : Nat) : Option (Int32) :=
  (if mK X0 x0 = some (8, 0) then (if (mI X0 802 x0) = (1 : Int32) then (some (1 : Int32)) else (if (mI X0 802 x0) = (3 : Int32) then (some (-1)) else (some (0 : Int32)))) else none)
def rmX11_isOnGround : Room := { frames := 0, cells := 0, slots := 0, locals := 0 }
def fX11_isOnGround (X0 : Mem)  (x0 : Int32) : Option (Int32) :=
  (if x0 < 0 then (some (0 : Int32)) else (if (16 : Int32) ≤ x0 then (some (0 : Int32)) else (some (1 : Int32))))
def rmX8_aheadY : Room := { frames := 0, cells := 0, slots := 0, locals := 0 }
def fX8_aheadY (X0 : Mem)  (x0 : Nat) : Option (Int32) :=
  (if mK X0 x0 = some (8, 0) then (if (mI X0 802 x0) = 0 then (some (1 : Int32)) else (if (mI X0 802 x0) = (2 : Int32) then (some (-1)) else (some (0 : Int32)))) else none)
def rmX8_canGo : Room := { frames := 1, cells := 0, slots := 0, locals := 20 }
def fX8_canGo (X0 : Mem)  (x0 : Nat) : Option (Int32) :=
  (if mK X0 x0 = some (8, 0) then (Option.bind (fX8_aheadX X0 x0) fun v5 => (Option.bind (fX11_isOnGround X0 ((mI X0 800 x0) + v5)) fun v9 => (if v9 = 0 then (some (0 : Int32)) else (Option.bind (fX8_aheadY X0 x0) fun v20 => (Option.bind (fX11_isOnGround X0 ((mI X0 801 x0) + v20)) fun v24 => (if v24 = 0 then (some (0 : Int32)) else (some (1 : Int32)))))))) else none)
def rmJ9_min_7cf53 : Room := { frames := 0, cells := 0, slots := 0, locals := 0 }
def fJ9_min_7cf53 (X0 : Mem)  (x0 : Int32) (x1 : Int32) : Option (Int32) :=
  (if x1 < x0 then (some x1) else (some x0))
def rmX2_takeIn : Room := { frames := 0, cells := 0, slots := 0, locals := 0 }
def fX2_takeIn_L113  (X : Mem) (s0 : Nat) (s1 : Int32) : Option (Mem) :=
  (if mK X s0 = some (2, 0) then (some (wI X 206 s0 s1)) else none)
def fX2_takeIn_L104  (X : Mem) (x4 : Int32) (s0 : Nat) : Option (Mem) :=
  (fX2_takeIn_L113 X s0 x4)
def fX2_takeIn_L86  (X : Mem) (x0 : Nat) (x4 : Int32) (x5 : Int32) (s0 : Nat) (s1 : Int32) : Option (Mem) :=
  (if mK X s0 = some (2, 0) then (if x5 = 0 then (if mK (wI X 205 s0 s1) x0 = some (2, 0) then (if x4 ≤ (mI (wI X 205 s0 s1) 206 x0) then (fX2_takeIn_L113 (wI X 205 s0 s1) x0 (mI (wI X 205 s0 s1) 206 x0)) else (fX2_takeIn_L104 (wI X 205 s0 s1) x4 x0)) else none) else (fX2_takeIn_L104 (wI X 205 s0 s1) x4 x0)) else none)
def fX2_takeIn_L78  (X : Mem) (x0 : Nat) (x3 : Int32) (x4 : Int32) (x5 : Int32) (s0 : Nat) : Option (Mem) :=
  (fX2_takeIn_L86 X x0 x4 x5 s0 x3)
def fX2_takeIn_L61  (X : Mem) (x0 : Nat) (x3 : Int32) (x4 : Int32) (x5 : Int32) (s0 : Nat) (s1 : Int32) : Option (Mem) :=
  (if mK X s0 = some (2, 0) then (if x5 = 0 then (if mK (wI X 204 s0 s1) x0 = some (2, 0) then (if x3 ≤ (mI (wI X 204 s0 s1) 205 x0) then (fX2_takeIn_L86 (wI X 204 s0 s1) x0 x4 x5 x0 (mI (wI X 204 s0 s1) 205 x0)) else (fX2_takeIn_L78 (wI X 204 s0 s1) x0 x3 x4 x5 x0)) else none) else (fX2_takeIn_L78 (wI X 204 s0 s1) x0 x3 x4 x5 x0)) else none)
def fX2_takeIn_L53  (X : Mem) (x0 : Nat) (x2 : Int32) (x3 : Int32) (x4 : Int32) (x5 : Int32) (s0 : Nat) : Option (Mem) :=
  (fX2_takeIn_L61 X x0 x3 x4 x5 s0 x2)
def fX2_takeIn_L36  (X : Mem) (x0 : Nat) (x2 : Int32) (x3 : Int32) (x4 : Int32) (x5 : Int32) (s0 : Nat) (s1 : Int32) : Option (Mem) :=
  (if mK X s0 = some (2, 0) then (if x5 = 0 then (if mK (wI X 203 s0 s1) x0 = some (2, 0) then (if (mI (wI X 203 s0 s1) 204 x0) ≤ x2 then (fX2_takeIn_L61 (wI X 203 s0 s1) x0 x3 x4 x5 x0 (mI (wI X 203 s0 s1) 204 x0)) else (fX2_takeIn_L53 (wI X 203 s0 s1) x0 x2 x3 x4 x5 x0)) else none) else (fX2_takeIn_L53 (wI X 203 s0 s1) x0 x2 x3 x4 x5 x0)) else none)
def fX2_takeIn_L28  (X : Mem) (x0 : Nat) (x1 : Int32) (x2 : Int32) (x3 : Int32) (x4 : Int32) (x5 : Int32) (s0 : Nat) : Option (Mem) :=
  (fX2_takeIn_L36 X x0 x2 x3 x4 x5 s0 x1)
def fX2_takeIn_L12  (X : Mem) (x0 : Nat) (x1 : Int32) (x2 : Int32) (x3 : Int32) (x4 : Int32) (s0 : Int32) : Option (Mem) :=
  (if s0 = 0 then (if mK X x0 = some (2, 0) then (if (mI X 203 x0) ≤ x1 then (fX2_takeIn_L36 X x0 x2 x3 x4 s0 x0 (mI X 203 x0)) else (fX2_takeIn_L28 X x0 x1 x2 x3 x4 s0 x0)) else none) else (fX2_takeIn_L28 X x0 x1 x2 x3 x4 s0 x0))
def fX2_takeIn  (X : Mem) (x0 : Nat) (x1 : Int32) (x2 : Int32) (x3 : Int32) (x4 : Int32) : Option (Mem) :=
  (if mK X x0 = some (2, 0) then (if (mI X 202 x0) = 0 then (fX2_takeIn_L12 X x0 x1 x2 x3 x4 (1 : Int32)) else (fX2_takeIn_L12 X x0 x1 x2 x3 x4 (0 : Int32))) else none)
def rmX2_draw : Room := { frames := 1, cells := 0, slots := 0, locals := 25 }
def fX2_draw_L83  (X : Mem) (x0 : Nat) (s0 : Nat) (s1 : Int32) (s2 : Int32) (s3 : Int32) (s4 : Int32) : Option (Mem) :=
  (if mK X s0 = some (2, 0) then (Option.bind (fX2_takeIn X s0 s1 s2 s3 s4) fun X83 => (if mK X83 x0 = some (2, 0) then (some (wI X83 202 x0 ((mI X83 202 x0) + (1 : Int32)))) else none)) else none)
def fX2_draw_L72  (X : Mem) (x0 : Nat) (x2 : Int32) (x3 : Int32) (s0 : Nat) (s1 : Int32) (s2 : Int32) (s3 : Int32) : Option (Mem) :=
  (if x3 = 0 then (fX2_draw_L83 X x0 s0 s1 s2 s3 x2) else (fX2_draw_L83 X x0 s0 s1 s2 s3 (x2 + (1 : Int32))))
def fX2_draw_L15  (X : Mem) (x0 : Nat) (x1 : Int32) (x2 : Int32) (x3 : Int32) (s0 : Option Nat) : Option (Mem) :=
  (Option.bind (fX11_isOnGround X x1) fun v18 => (if v18 = 0 then (some X) else (if x2 < 0 then (some X) else (Option.bind s0 fun a31_1 => (Option.bind (alen X a31_1) fun n31_1 => (if (nI n31_1) ≤ x2 then (some X) else (if inb X 0 a31_1 x2 = true then (if (((aI X a31_1 x2.toNatClampNeg) >>> (x1 &&& 31)) &&& (1 : Int32)) = (1 : Int32) then (some X) else (if inb X 0 a31_1 x2 = true then (if inb X 0 a31_1 x2 = true then (if x3 = 0 then (fX2_draw_L72 (sI X a31_1 x2.toNatClampNeg ((aI X a31_1 x2.toNatClampNeg) ||| ((1 : Int32) <<< (x1 &&& 31)))) x0 x2 x3 x0 x1 x2 (x1 + (1 : Int32))) else (fX2_draw_L72 (sI X a31_1 x2.toNatClampNeg ((aI X a31_1 x2.toNatClampNeg) ||| ((1 : Int32) <<< (x1 &&& 31)))) x0 x2 x3 x0 x1 x2 x1)) else none) else none)) else none)))))))
def fX2_draw  (X : Mem) (x0 : Nat) (x1 : Int32) (x2 : Int32) (x3 : Int32) : Option (Mem) :=
  (if x3 = 0 then (if mK X x0 = some (2, 0) then (fX2_draw_L15 X x0 x1 x2 x3 (mR X 200 x0)) else none) else (if mK X x0 = some (2, 0) then (fX2_draw_L15 X x0 x1 x2 x3 (mR X 201 x0)) else none))
def rmX8_go : Room := { frames := 2, cells := 0, slots := 0, locals := 49 }
def fX8_go_L60  (X : Mem) (x0 : Nat) (x2 : Int32) (x3 : Int32) : Option (Mem) :=
  (if mK X x0 = some (8, 0) then (some (wI (wI X 800 x0 x2) 801 x0 x3)) else none)
def fX8_go_L57  (X : Mem) (x0 : Nat) (x2 : Int32) (x3 : Int32) (s0 : Option Nat) (s1 : Int32) (s2 : Int32) (s3 : Int32) : Option (Mem) :=
  (Option.bind s0 fun a57_1 => (if mK X a57_1 = some (2, 0) then (Option.bind (fX2_draw X a57_1 s1 s2 s3) fun X57 => (fX8_go_L60 X57 x0 x2 x3)) else none))
def fX8_go  (X : Mem) (x0 : Nat) (x1 : Option Nat) : Option (Mem) :=
  (if mK X x0 = some (8, 0) then (Option.bind (fX8_aheadX X x0) fun v5 => (Option.bind (fX8_aheadY X x0) fun v15 => (if (mI X 803 x0) = 0 then (fX8_go_L60 X x0 ((mI X 800 x0) + v5) ((mI X 801 x0) + v15)) else (Option.bind (fJ9_min_7cf53 X (mI X 800 x0) ((mI X 800 x0) + v5)) fun v33 => (Option.bind (fJ9_min_7cf53 X (mI X 801 x0) ((mI X 801 x0) + v15)) fun v41 => (if (mI X 800 x0) = ((mI X 800 x0) + v5) then (fX8_go_L57 X x0 ((mI X 800 x0) + v5) ((mI X 801 x0) + v15) x1 v33 v41 (1 : Int32)) else (fX8_go_L57 X x0 ((mI X 800 x0) + v5) ((mI X 801 x0) + v15) x1 v33 v41 (0 : Int32)))))))) else none)
def rmX7_goForward : Room := { frames := 3, cells := 0, slots := 0, locals := 72 }
def fX7_goForward_L13b (fu : Nat) (rec13 : Mem → Nat → Int32 → Int32 → Option (Int32 × Mem)) (X : Mem) (x0 : Nat) (x1 : Int32) (x2 : Int32) : Option (Int32 × Mem) :=
  (if x1 ≤ x2 then (some ((1 : Int32), X)) else (if mK X x0 = some (7, 0) then (bW (fX7_canCount X x0) fun v19 X19 => (if v19 = 0 then (some ((0 : Int32), X19)) else (if mK X19 x0 = some (7, 0) then (Option.bind (mR X19 700 x0) fun a31_3 => (if mK X19 a31_3 = some (8, 0) then (Option.bind (fX8_canGo X19 a31_3) fun v31 => (if v31 = 0 then (some ((0 : Int32), (wI X19 708 x0 (2 : Int32)))) else (Option.bind (mR (wI X19 707 x0 ((mI X19 707 x0) + (1 : Int32))) 700 x0) fun a62_5 => (if mK (wI X19 707 x0 ((mI X19 707 x0) + (1 : Int32))) a62_5 = some (8, 0) then (Option.bind (fX8_go (wI X19 707 x0 ((mI X19 707 x0) + (1 : Int32))) a62_5 (mR (wI X19 707 x0 ((mI X19 707 x0) + (1 : Int32))) 704 x0)) fun X62 => (rec13 X62 x0 x1 (x2 + (1 : Int32)))) else none)))) else none)) else none))) else none))
def fX7_goForward_L13 (fu : Nat)  : Nat → Mem → Nat → Int32 → Int32 → Option (Int32 × Mem)
  | 0 => fun _ _ _ _ => none
  | n + 1 => fun X x0 x1 x2 => fX7_goForward_L13b fu (fX7_goForward_L13 fu n) X x0 x1 x2
def fX7_goForward (fu : Nat)  (X : Mem) (x0 : Nat) (x1 : Int32) : Option (Int32 × Mem) :=
  (if 0 ≤ x1 then (fX7_goForward_L13 fu fu X x0 x1 (0 : Int32)) else (if mK X x0 = some (7, 0) then (some ((0 : Int32), (wI X 708 x0 (3 : Int32)))) else none))
def rmJ9_floorMod_7cf53 : Room := { frames := 0, cells := 0, slots := 0, locals := 0 }
def fJ9_floorMod_7cf53 (X0 : Mem)  (x0 : Int32) (x1 : Int32) : Option (Int32) :=
  (if x1 = 0 then none else (if 0 ≤ (x0 ^^^ x1) then (some (x0 - x0 / x1 * x1)) else (if (x0 - x0 / x1 * x1) = 0 then (some (x0 - x0 / x1 * x1)) else (some ((x0 - x0 / x1 * x1) + x1)))))
def rmX8_turnBy : Room := { frames := 1, cells := 0, slots := 0, locals := 22 }
def fX8_turnBy  (X : Mem) (x0 : Nat) (x1 : Int32) : Option (Mem) :=
  (if mK X x0 = some (8, 0) then (Option.bind (fJ9_floorMod_7cf53 X ((mI X 802 x0) + x1) (4 : Int32)) fun v8 => (some (wI X 802 x0 v8))) else none)
def rmX8_putPen : Room := { frames := 0, cells := 0, slots := 0, locals := 0 }
def fX8_putPen  (X : Mem) (x0 : Nat) (x1 : Int32) : Option (Mem) :=
  (if mK X x0 = some (8, 0) then (if x1 = 0 ∨ x1 = 1 then (some (wI X 803 x0 x1)) else none) else none)
def rmX7_putName : Room := { frames := 0, cells := 0, slots := 0, locals := 0 }
def fX7_putName_L14  (X : Mem) (x0 : Nat) : Option (Int32 × Mem) :=
  (if mK X x0 = some (7, 0) then (some ((0 : Int32), (wI X 708 x0 (3 : Int32)))) else none)
def fX7_putName  (X : Mem) (x0 : Nat) (x1 : Int32) (x2 : Int32) : Option (Int32 × Mem) :=
  (if (999 : Int32) < x2 then (fX7_putName_L14 X x0) else (if (-999) ≤ x2 then (if x1 < 0 then (some ((1 : Int32), X)) else (if mK X x0 = some (7, 0) then (Option.bind (mR X 701 x0) fun a30_2 => (Option.bind (alen X a30_2) fun n30_2 => (if (nI n30_2) ≤ x1 then (some ((1 : Int32), X)) else (Option.bind (mR X 701 x0) fun a40_4 => (if inb X 0 a40_4 x1 = true then (some ((1 : Int32), (sI X a40_4 x1.toNatClampNeg x2))) else none))))) else none)) else (fX7_putName_L14 X x0)))
def rmX7_beginRepeat : Room := { frames := 1, cells := 0, slots := 0, locals := 21 }
def fX7_beginRepeat_L35  (X : Mem) (x0 : Nat) (x2 : Int32) (x3 : Int32) (x4 : Int32) (x5 : Int32) (s0 : Int32) : Option (Int32 × Mem) :=
  (if s0 = 0 then (if x5 < 0 then (some ((x4 + (1 : Int32)), X)) else (if mK X x0 = some (7, 0) then (Option.bind (mR X 702 x0) fun a53_2 => (Option.bind (alen X a53_2) fun n53_2 => (if x5 < (nI n53_2) then (Option.bind (mR X 702 x0) fun a69_4 => (if inb X 0 a69_4 x5 = true then (some ((x2 + (1 : Int32)), (sI X a69_4 x5.toNatClampNeg x3))) else none)) else (some ((x4 + (1 : Int32)), X))))) else none)) else (some ((x4 + (1 : Int32)), X)))
def fX7_beginRepeat_L30  (X : Mem) (x0 : Nat) (x2 : Int32) (x3 : Int32) (x4 : Int32) (x5 : Int32) : Option (Int32 × Mem) :=
  (fX7_beginRepeat_L35 X x0 x2 x3 x4 x5 (1 : Int32))
def fX7_beginRepeat  (X : Mem) (x0 : Nat) (x1 : Option Nat) (x2 : Int32) (x3 : Int32) : Option (Int32 × Mem) :=
  (Option.bind x1 fun a2_1 => (if mK X a2_1 = some (5, 0) then (Option.bind (fX5_partnerOf X a2_1 x2) fun v2 => (if mK X x0 = some (7, 0) then (if x3 ≤ 0 then (fX7_beginRepeat_L30 X x0 x2 x3 v2 (((mI X 705 x0) * (30 : Int32)) + x2)) else (if v2 = (x2 + (1 : Int32)) then (fX7_beginRepeat_L30 X x0 x2 x3 v2 (((mI X 705 x0) * (30 : Int32)) + x2)) else (fX7_beginRepeat_L35 X x0 x2 x3 v2 (((mI X 705 x0) * (30 : Int32)) + x2) (0 : Int32)))) else none)) else none))
def rmX5_startOf : Room := { frames := 0, cells := 0, slots := 0, locals := 0 }
def fX5_startOf (X0 : Mem)  (x0 : Nat) (x1 : Int32) : Option (Int32) :=
  (if x1 < 0 then (some (-1)) else (if mK X0 x0 = some (5, 0) then (Option.bind (mR X0 503 x0) fun a9_2 => (Option.bind (alen X0 a9_2) fun n9_2 => (if (nI n9_2) ≤ x1 then (some (-1)) else (Option.bind (mR X0 503 x0) fun a18_4 => (if inb X0 0 a18_4 x1 = true then (some (aI X0 a18_4 x1.toNatClampNeg)) else none))))) else none))
def rmX7_enterWord : Room := { frames := 1, cells := 0, slots := 0, locals := 21 }
def fX7_enterWord_L39  (X : Mem) (x0 : Nat) : Option (Int32 × Mem) :=
  (if mK X x0 = some (7, 0) then (some ((-1), (wI X 708 x0 (4 : Int32)))) else none)
def fX7_enterWord  (X : Mem) (x0 : Nat) (x1 : Option Nat) (x2 : Int32) (x3 : Int32) : Option (Int32 × Mem) :=
  (Option.bind x1 fun a2_1 => (if mK X a2_1 = some (5, 0) then (Option.bind (fX5_startOf X a2_1 x3) fun v2 => (if v2 = (-1) then (if mK X x0 = some (7, 0) then (some ((-1), (wI X 708 x0 (5 : Int32)))) else none) else (if mK X x0 = some (7, 0) then (if (mI X 705 x0) < 0 then (fX7_enterWord_L39 X x0) else (Option.bind (mR X 703 x0) fun a35_4 => (Option.bind (alen X a35_4) fun n35_4 => (if (mI X 705 x0) < (nI n35_4) then (Option.bind (mR X 703 x0) fun a55_6 => (if inb X 0 a55_6 (mI X 705 x0) = true then (some ((v2 + (1 : Int32)), (wI (sI X a55_6 (mI X 705 x0).toNatClampNeg x2) 705 x0 ((mI (sI X a55_6 (mI X 705 x0).toNatClampNeg x2) 705 x0) + (1 : Int32))))) else none)) else (fX7_enterWord_L39 X x0))))) else none))) else none))
def rmX7_follow : Room := { frames := 4, cells := 0, slots := 0, locals := 94 }
def fX7_follow_L165 (fu : Nat)  (X : Mem) (x2 : Int32) (s0 : Option Nat) (s1 : Int32) : Option (Int32 × Mem) :=
  (Option.bind s0 fun a165_1 => (if mK X a165_1 = some (8, 0) then (Option.bind (fX8_putPen X a165_1 s1) fun X165 => (some ((x2 + (1 : Int32)), X165))) else none))
def fX7_follow (fu : Nat)  (X : Mem) (x0 : Nat) (x1 : Option Nat) (x2 : Int32) : Option (Int32 × Mem) :=
  (Option.bind x1 fun a2_1 => (if mK X a2_1 = some (5, 0) then (Option.bind (fX5_orderAt X a2_1 x2) fun v2 => (if v2 = none then (some ((-1), X)) else (Option.bind v2 fun a13_3 => (if mK X a13_3 = some (4, 0) then (if (mI X 400 a13_3) = (6 : Int32) then (Option.bind (fX5_partnerOf X a2_1 x2) fun v23 => (some ((v23 + (1 : Int32)), X))) else (if (mI X 400 a13_3) = (8 : Int32) then (if mK X x0 = some (7, 0) then (bW (fX7_closeBlock X x0 (some a2_1) x2) fun v41 X41 => (some (v41, X41))) else none) else (if mK X x0 = some (7, 0) then (bW (fX7_canCount X x0) fun v46 X46 => (if v46 = 0 then (some ((-1), X46)) else (if mK X46 x0 = some (7, 0) then (Option.bind (fX7_valueOf (wI X46 707 x0 ((mI X46 707 x0) + (1 : Int32))) x0 (some a13_3)) fun v66 => (if mK (wI X46 707 x0 ((mI X46 707 x0) + (1 : Int32))) a13_3 = some (4, 0) then (if (mI (wI X46 707 x0 ((mI X46 707 x0) + (1 : Int32))) 400 a13_3) = (0 : Int32) then (bW (fX7_goForward fu (wI X46 707 x0 ((mI X46 707 x0) + (1 : Int32))) x0 v66) fun v123 X123 => (if v123 = 0 then (some ((-1), X123)) else (some ((x2 + (1 : Int32)), X123)))) else (if (mI (wI X46 707 x0 ((mI X46 707 x0) + (1 : Int32))) 400 a13_3) = (1 : Int32) then (Option.bind (mR (wI X46 707 x0 ((mI X46 707 x0) + (1 : Int32))) 700 x0) fun a143_8 => (if mK (wI X46 707 x0 ((mI X46 707 x0) + (1 : Int32))) a143_8 = some (8, 0) then (Option.bind (fX8_turnBy (wI X46 707 x0 ((mI X46 707 x0) + (1 : Int32))) a143_8 v66) fun X143 => (some ((x2 + (1 : Int32)), X143))) else none)) else (if (mI (wI X46 707 x0 ((mI X46 707 x0) + (1 : Int32))) 400 a13_3) = (2 : Int32) then (if v66 = (1 : Int32) then (fX7_follow_L165 fu (wI X46 707 x0 ((mI X46 707 x0) + (1 : Int32))) x2 (mR (wI X46 707 x0 ((mI X46 707 x0) + (1 : Int32))) 700 x0) (1 : Int32)) else (fX7_follow_L165 fu (wI X46 707 x0 ((mI X46 707 x0) + (1 : Int32))) x2 (mR (wI X46 707 x0 ((mI X46 707 x0) + (1 : Int32))) 700 x0) (0 : Int32))) else (if (mI (wI X46 707 x0 ((mI X46 707 x0) + (1 : Int32))) 400 a13_3) = (3 : Int32) then (bW (fX7_putName (wI X46 707 x0 ((mI X46 707 x0) + (1 : Int32))) x0 (mI (wI X46 707 x0 ((mI X46 707 x0) + (1 : Int32))) 401 a13_3) v66) fun v179 X179 => (if v179 = 0 then (some ((-1), X179)) else (some ((x2 + (1 : Int32)), X179)))) else (if (mI (wI X46 707 x0 ((mI X46 707 x0) + (1 : Int32))) 400 a13_3) = (4 : Int32) then (Option.bind (fX7_nameAt (wI X46 707 x0 ((mI X46 707 x0) + (1 : Int32))) x0 (mI (wI X46 707 x0 ((mI X46 707 x0) + (1 : Int32))) 401 a13_3)) fun v203 => (bW (fX7_putName (wI X46 707 x0 ((mI X46 707 x0) + (1 : Int32))) x0 (mI (wI X46 707 x0 ((mI X46 707 x0) + (1 : Int32))) 401 a13_3) (v203 + v66)) fun v209 X209 => (if v209 = 0 then (some ((-1), X209)) else (some ((x2 + (1 : Int32)), X209))))) else (if (mI (wI X46 707 x0 ((mI X46 707 x0) + (1 : Int32))) 400 a13_3) = (5 : Int32) then (bW (fX7_beginRepeat (wI X46 707 x0 ((mI X46 707 x0) + (1 : Int32))) x0 (some a2_1) x2 v66) fun v228 X228 => (some (v228, X228))) else (if (mI (wI X46 707 x0 ((mI X46 707 x0) + (1 : Int32))) 400 a13_3) = (6 : Int32) then (some ((-1), (wI X46 707 x0 ((mI X46 707 x0) + (1 : Int32))))) else (if (mI (wI X46 707 x0 ((mI X46 707 x0) + (1 : Int32))) 400 a13_3) = (7 : Int32) then (bW (fX7_enterWord (wI X46 707 x0 ((mI X46 707 x0) + (1 : Int32))) x0 (some a2_1) x2 (mI (wI X46 707 x0 ((mI X46 707 x0) + (1 : Int32))) 401 a13_3)) fun v239 X239 => (some (v239, X239))) else (if (mI (wI X46 707 x0 ((mI X46 707 x0) + (1 : Int32))) 400 a13_3).toInt < 0 ∨ 7 < (mI (wI X46 707 x0 ((mI X46 707 x0) + (1 : Int32))) 400 a13_3).toInt then (some ((-1), (wI X46 707 x0 ((mI X46 707 x0) + (1 : Int32))))) else none))))))))) else none)) else none))) else none))) else none)))) else none))
def rmX7_perform : Room := { frames := 5, cells := 0, slots := 0, locals := 118 }
def fX7_perform_L65b (fu : Nat) (rec65 : Mem → Nat → (Option Nat) → Int32 → Int32 → Option (Mem)) (X : Mem) (x0 : Nat) (x1 : Option Nat) (x4 : Int32) (x5 : Int32) : Option (Mem) :=
  (if (100000 : Int32) ≤ x5 then (some X) else (if x4 < 0 then (some X) else (Option.bind x1 fun a80_1 => (if mK X a80_1 = some (5, 0) then (Option.bind (fX5_length X a80_1) fun v80 => (if v80 ≤ x4 then (some X) else (if mK X x0 = some (7, 0) then (bW (fX7_follow fu X x0 (some a80_1) x4) fun v90 X90 => (rec65 X90 x0 (some a80_1) v90 (x5 + (1 : Int32)))) else none))) else none))))
def fX7_perform_L65 (fu : Nat)  : Nat → Mem → Nat → (Option Nat) → Int32 → Int32 → Option (Mem)
  | 0 => fun _ _ _ _ _ => none
  | n + 1 => fun X x0 x1 x4 x5 => fX7_perform_L65b fu (fX7_perform_L65 fu n) X x0 x1 x4 x5
def fX7_perform_L35b (fu : Nat) (rec35 : Mem → Nat → (Option Nat) → Int32 → Option (Mem)) (X : Mem) (x0 : Nat) (x1 : Option Nat) (x4 : Int32) : Option (Mem) :=
  (if mK X x0 = some (7, 0) then (Option.bind (mR X 701 x0) fun a41_2 => (Option.bind (alen X a41_2) fun n41_2 => (if (nI n41_2) ≤ x4 then (fX7_perform_L65 fu fu X x0 x1 (0 : Int32) (0 : Int32)) else (Option.bind (mR X 701 x0) fun a52_4 => (if inb X 0 a52_4 x4 = true then (rec35 (sI X a52_4 x4.toNatClampNeg (0 : Int32)) x0 x1 (x4 + (1 : Int32))) else none))))) else none)
def fX7_perform_L35 (fu : Nat)  : Nat → Mem → Nat → (Option Nat) → Int32 → Option (Mem)
  | 0 => fun _ _ _ _ => none
  | n + 1 => fun X x0 x1 x4 => fX7_perform_L35b fu (fX7_perform_L35 fu n) X x0 x1 x4
def fX7_perform (fu : Nat)  (X : Mem) (x0 : Nat) (x1 : Option Nat) (x2 : Option Nat) (x3 : Int32) : Option (Mem) :=
  (if mK X x0 = some (7, 0) then (Option.bind (mR (wI (wI (wI (wI (wR X 704 x0 x2) 706 x0 x3) 707 x0 (0 : Int32)) 705 x0 (0 : Int32)) 708 x0 (0 : Int32)) 700 x0) fun a29_2 => (if mK (wI (wI (wI (wI (wR X 704 x0 x2) 706 x0 x3) 707 x0 (0 : Int32)) 705 x0 (0 : Int32)) 708 x0 (0 : Int32)) a29_2 = some (8, 0) then (Option.bind (fX8_begin (wI (wI (wI (wI (wR X 704 x0 x2) 706 x0 x3) 707 x0 (0 : Int32)) 705 x0 (0 : Int32)) 708 x0 (0 : Int32)) a29_2) fun X29 => (fX7_perform_L35 fu fu X29 x0 x1 (0 : Int32))) else none)) else none)
def rmX7_brokenBy : Room := { frames := 0, cells := 0, slots := 0, locals := 0 }
def fX7_brokenBy (X0 : Mem)  (x0 : Nat) : Option (Int32) :=
  (if mK X0 x0 = some (7, 0) then (some (mI X0 708 x0)) else none)
def rmX7_counted : Room := { frames := 0, cells := 0, slots := 0, locals := 0 }
def fX7_counted (X0 : Mem)  (x0 : Nat) : Option (Int32) :=
  (if mK X0 x0 = some (7, 0) then (some (mI X0 707 x0)) else none)
def rmX5_keepOutcome : Room := { frames := 0, cells := 0, slots := 0, locals := 0 }
def fX5_keepOutcome  (X : Mem) (x0 : Nat) (x1 : Int32) (x2 : Int32) : Option (Mem) :=
  (if mK X x0 = some (5, 0) then (some (wI (wI X 506 x0 x1) 507 x0 x2)) else none)
def rmX11_write : Room := { frames := 7, cells := 15, slots := 177, locals := 143 }
def fX11_write (fu : Nat)  (X0 : Mem) (x0 : Nat) (x1 : Int32) : Option (String ⊕ (Int32 × Mem)) :=
  (bE (fX11_checkPupil X0 x1) fun v1 => (if mK X0 x0 = some (11, 0) then (Option.bind (mR X0 1100 x0) fun a8_2 => (if mK X0 a8_2 = some (1, 0) then (Option.bind (fX1_length X0 a8_2) fun v8 => (if v8 = 0 then (some (.inl "java/lang/IllegalStateException")) else (Option.bind (mR X0 1100 x0) fun a18_4 => (if mK X0 a18_4 = some (1, 0) then (Option.bind (fX1_openBlocks X0 a18_4) fun v18 => (if v18 ≤ 0 then (if (mI X0 1108 x0) < 0 then (some (.inl "java/lang/IllegalStateException")) else (Option.bind (mR X0 1105 x0) fun a48_6 => (Option.bind (alen X0 a48_6) fun n48_6 => (if (mI X0 1108 x0) < (nI n48_6) then (Option.bind (some (mZ X0)) fun q62 => (Option.bind (some (nO X0 5)) fun X62 => (if mK X62 x0 = some (11, 0) then (Option.bind (fX5_init fu X62 q62 x1 (mR X62 1100 x0)) fun X71 => (if mK X71 x0 = some (11, 0) then (if mK X71 q62 = some (5, 0) then (Option.bind (mR X71 1101 x0) fun a87_11 => (if mK X71 a87_11 = some (7, 0) then (Option.bind (fX7_perform fu X71 a87_11 (some q62) (mR X71 505 q62) (600 : Int32)) fun X87 => (if mK X87 x0 = some (11, 0) then (Option.bind (mR X87 1101 x0) fun a95_14 => (if mK X87 a95_14 = some (7, 0) then (Option.bind (fX7_brokenBy X87 a95_14) fun v95 => (Option.bind (mR X87 1101 x0) fun a102_16 => (if mK X87 a102_16 = some (7, 0) then (Option.bind (fX7_counted X87 a102_16) fun v102 => (if mK X87 q62 = some (5, 0) then (Option.bind (fX5_keepOutcome X87 q62 v95 v102) fun X105 => (if mK X105 x0 = some (11, 0) then (Option.bind (mR X105 1105 x0) fun a114_20 => (if inb X105 4 a114_20 (mI X0 1108 x0) = true then (if mK X105 q62 = some (5, 0) then (Option.bind (mR (wI (sR X105 a114_20 (mI X0 1108 x0).toNatClampNeg (some q62)) 1108 x0 ((mI X0 1108 x0) + (1 : Int32))) 1100 x0) fun a126_22 => (if mK (wI (sR X105 a114_20 (mI X0 1108 x0).toNatClampNeg (some q62)) 1108 x0 ((mI X0 1108 x0) + (1 : Int32))) a126_22 = some (1, 0) then (Option.bind (fX1_makeEmpty fu (wI (sR X105 a114_20 (mI X0 1108 x0).toNatClampNeg (some q62)) 1108 x0 ((mI X0 1108 x0) + (1 : Int32))) a126_22) fun X126 => (some (.inr ((mI X0 1108 x0), X126)))) else none)) else none) else none)) else none)) else none)) else none))) else none)) else none)) else none)) else none) else none)) else none))) else (some (.inl "java/lang/IllegalStateException")))))) else (some (.inl "java/lang/IllegalStateException")))) else none)))) else none)) else none))
def rmX11_programAt : Room := { frames := 6, cells := 1, slots := 6, locals := 90 }
def fX11_programAt_L30 (X0 : Mem)  (x2 : Option Nat) : Option (String ⊕ (Option Nat)) :=
  (if x2 = none then (some (.inl "java/lang/IndexOutOfBoundsException")) else (some (.inr x2)))
def fX11_programAt (X0 : Mem)  (x0 : Nat) (x1 : Int32) : Option (String ⊕ (Option Nat)) :=
  (if x1 < 0 then (fX11_programAt_L30 X0 none) else (if mK X0 x0 = some (11, 0) then (if (mI X0 1108 x0) ≤ x1 then (fX11_programAt_L30 X0 none) else (Option.bind (mR X0 1105 x0) fun a19_2 => (Option.bind (alen X0 a19_2) fun n19_2 => (if (nI n19_2) ≤ x1 then (fX11_programAt_L30 X0 none) else (Option.bind (mR X0 1105 x0) fun a28_4 => (if inb X0 4 a28_4 x1 = true then (fX11_programAt_L30 X0 (aR X0 a28_4 x1.toNatClampNeg)) else none)))))) else none))
def rmX11_checkAllowance : Room := { frames := 6, cells := 1, slots := 6, locals := 90 }
def fX11_checkAllowance (X0 : Mem)  (x0 : Int32) (x1 : Int32) : Option (String ⊕ (Unit)) :=
  (if x0 < (1 : Int32) then (some (.inl "java/lang/IllegalArgumentException")) else (if (30 : Int32) < x0 then (some (.inl "java/lang/IllegalArgumentException")) else (if x1 < 0 then (some (.inl "java/lang/IllegalArgumentException")) else (if x1 ≤ (600 : Int32) then (some (.inr ())) else (some (.inl "java/lang/IllegalArgumentException"))))))
def rmX3_init : Room := { frames := 1, cells := 0, slots := 0, locals := 20 }
def fX3_init  (X : Mem) (x0 : Nat) (x1 : Option Nat) (x2 : Int32) (x3 : Int32) : Option (Mem) :=
  (if mK X x0 = some (3, 0) then (some (wI (wI (wR X 300 x0 x1) 301 x0 x2) 302 x0 x3)) else none)
def rmX11_exercise : Room := { frames := 7, cells := 4, slots := 21, locals := 112 }
def fX11_exercise  (X0 : Mem) (x0 : Nat) (x1 : Int32) (x2 : Int32) (x3 : Int32) : Option (String ⊕ (Int32 × Mem)) :=
  (if mK X0 x0 = some (11, 0) then (bE (fX11_programAt X0 x0 x1) fun v2 => (bE (fX11_checkAllowance X0 x2 x3) fun v9 => (if (mI X0 1109 x0) < 0 then (some (.inl "java/lang/IllegalStateException")) else (Option.bind (mR X0 1106 x0) fun a29_2 => (Option.bind (alen X0 a29_2) fun n29_2 => (if (mI X0 1109 x0) < (nI n29_2) then (Option.bind (some (mZ X0)) fun q49 => (Option.bind (some (nO X0 3)) fun X49 => (Option.bind (fX3_init X49 q49 v2 x2 x3) fun X57 => (Option.bind (mR X0 1106 x0) fun a60_4 => (if inb X57 5 a60_4 (mI X0 1109 x0) = true then (if mK X57 q49 = some (3, 0) then (if mK (sR X57 a60_4 (mI X0 1109 x0).toNatClampNeg (some q49)) x0 = some (11, 0) then (some (.inr ((mI X0 1109 x0), (wI (sR X57 a60_4 (mI X0 1109 x0).toNatClampNeg (some q49)) 1109 x0 ((mI X0 1109 x0) + (1 : Int32)))))) else none) else none) else none))))) else (some (.inl "java/lang/IllegalStateException")))))))) else none)
def rmX11_exerciseAt : Room := { frames := 6, cells := 1, slots := 6, locals := 90 }
def fX11_exerciseAt_L30 (X0 : Mem)  (x2 : Option Nat) : Option (String ⊕ (Option Nat)) :=
  (if x2 = none then (some (.inl "java/lang/IndexOutOfBoundsException")) else (some (.inr x2)))
def fX11_exerciseAt (X0 : Mem)  (x0 : Nat) (x1 : Int32) : Option (String ⊕ (Option Nat)) :=
  (if x1 < 0 then (fX11_exerciseAt_L30 X0 none) else (if mK X0 x0 = some (11, 0) then (if (mI X0 1109 x0) ≤ x1 then (fX11_exerciseAt_L30 X0 none) else (Option.bind (mR X0 1106 x0) fun a19_2 => (Option.bind (alen X0 a19_2) fun n19_2 => (if (nI n19_2) ≤ x1 then (fX11_exerciseAt_L30 X0 none) else (Option.bind (mR X0 1106 x0) fun a28_4 => (if inb X0 5 a28_4 x1 = true then (fX11_exerciseAt_L30 X0 (aR X0 a28_4 x1.toNatClampNeg)) else none)))))) else none))
def rmX3_allowAtMost : Room := { frames := 0, cells := 0, slots := 0, locals := 0 }
def fX3_allowAtMost  (X : Mem) (x0 : Nat) (x1 : Int32) (x2 : Int32) : Option (Mem) :=
  (if mK X x0 = some (3, 0) then (some (wI (wI X 301 x0 x1) 302 x0 x2)) else none)
def rmX9_makeEmpty : Room := { frames := 0, cells := 0, slots := 0, locals := 0 }
def fX9_makeEmpty_L2b (fu : Nat) (rec2 : Mem → Nat → Int32 → Option (Mem)) (X : Mem) (x0 : Nat) (x1 : Int32) : Option (Mem) :=
  (if mK X x0 = some (9, 0) then (Option.bind (mR X 900 x0) fun a7_2 => (Option.bind (alen X a7_2) fun n7_2 => (if (nI n7_2) ≤ x1 then (some X) else (Option.bind (mR X 900 x0) fun a17_4 => (if inb X 2 a17_4 x1 = true then (rec2 (sJ X a17_4 x1.toNatClampNeg (0 : Int64)) x0 (x1 + (1 : Int32))) else none))))) else none)
def fX9_makeEmpty_L2 (fu : Nat)  : Nat → Mem → Nat → Int32 → Option (Mem)
  | 0 => fun _ _ _ => none
  | n + 1 => fun X x0 x1 => fX9_makeEmpty_L2b fu (fX9_makeEmpty_L2 fu n) X x0 x1
def fX9_makeEmpty (fu : Nat)  (X : Mem) (x0 : Nat) : Option (Mem) :=
  (fX9_makeEmpty_L2 fu fu X x0 (0 : Int32))
def rmX2_rowInCorner : Room := { frames := 1, cells := 0, slots := 0, locals := 20 }
def fX2_rowInCorner (X0 : Mem)  (x0 : Nat) (x1 : Option Nat) (x2 : Int32) : Option (Int32) :=
  (if mK X0 x0 = some (2, 0) then (Option.bind (fX11_isOnGround X0 (mI X0 203 x0)) fun v11 => (if v11 = 0 then (some (0 : Int32)) else (if ((mI X0 204 x0) + x2) < 0 then (some (0 : Int32)) else (Option.bind x1 fun a23_2 => (Option.bind (alen X0 a23_2) fun n23_2 => (if (nI n23_2) ≤ ((mI X0 204 x0) + x2) then (some (0 : Int32)) else (if inb X0 0 a23_2 ((mI X0 204 x0) + x2) = true then (some ((aI X0 a23_2 ((mI X0 204 x0) + x2).toNatClampNeg) >>> ((mI X0 203 x0) &&& 31))) else none))))))) else none)
def rmX2_isShiftOf : Room := { frames := 2, cells := 0, slots := 0, locals := 43 }
def fX2_isShiftOf_L24b (fu : Nat) (X0 : Mem) (rec24 : Nat → Nat → Int32 → Option (Int32)) (x0 : Nat) (x1 : Nat) (x2 : Int32) : Option (Int32) :=
  (if (16 : Int32) ≤ x2 then (some (1 : Int32)) else (if mK X0 x0 = some (2, 0) then (Option.bind (fX2_rowInCorner X0 x0 (mR X0 200 x0) x2) fun v36 => (if mK X0 x1 = some (2, 0) then (Option.bind (fX2_rowInCorner X0 x1 (mR X0 200 x1) x2) fun v45 => (if v36 = v45 then (Option.bind (fX2_rowInCorner X0 x0 (mR X0 201 x0) x2) fun v57 => (Option.bind (fX2_rowInCorner X0 x1 (mR X0 201 x1) x2) fun v66 => (if v57 = v66 then (rec24 x0 x1 (x2 + (1 : Int32))) else (some (0 : Int32))))) else (some (0 : Int32)))) else none)) else none))
def fX2_isShiftOf_L24 (fu : Nat) (X0 : Mem)  : Nat → Nat → Nat → Int32 → Option (Int32)
  | 0 => fun _ _ _ => none
  | n + 1 => fun x0 x1 x2 => fX2_isShiftOf_L24b fu X0 (fX2_isShiftOf_L24 fu X0 n) x0 x1 x2
def fX2_isShiftOf (fu : Nat) (X0 : Mem)  (x0 : Nat) (x1 : Option Nat) : Option (Int32) :=
  (if mK X0 x0 = some (2, 0) then (Option.bind x1 fun a5_2 => (if mK X0 a5_2 = some (2, 0) then (if (mI X0 202 x0) = (mI X0 202 a5_2) then (if (mI X0 202 x0) = 0 then (some (1 : Int32)) else (fX2_isShiftOf_L24 fu X0 fu x0 a5_2 (0 : Int32))) else (some (0 : Int32))) else none)) else none)
def rmX3_isMetBy : Room := { frames := 3, cells := 0, slots := 0, locals := 65 }
def fX3_isMetBy (fu : Nat) (X0 : Mem)  (x0 : Nat) (x1 : Option Nat) : Option (Int32) :=
  (Option.bind x1 fun a1_1 => (if mK X0 a1_1 = some (5, 0) then (if (mI X0 506 a1_1) = 0 then (Option.bind (fX5_length X0 a1_1) fun v8 => (if mK X0 x0 = some (3, 0) then (if (mI X0 301 x0) < v8 then (some (0 : Int32)) else (if (mI X0 302 x0) < (mI X0 507 a1_1) then (some (0 : Int32)) else (Option.bind (mR X0 300 x0) fun a37_4 => (if mK X0 a37_4 = some (5, 0) then (Option.bind (mR X0 505 a1_1) fun a40_6 => (if mK X0 a40_6 = some (2, 0) then (Option.bind (fX2_isShiftOf fu X0 a40_6 (mR X0 505 a37_4)) fun v40 => (if v40 = 0 then (some (0 : Int32)) else (some (1 : Int32)))) else none)) else none)))) else none)) else (some (0 : Int32))) else none))
def rmX10_meetsExercise : Room := { frames := 4, cells := 0, slots := 0, locals := 86 }
def fX10_meetsExercise (fu : Nat) (X0 : Mem)  (x0 : Nat) : Option (Int32) :=
  (if mK X0 x0 = some (10, 0) then (Option.bind (mR X0 1001 x0) fun a8_2 => (if mK X0 a8_2 = some (3, 0) then (Option.bind (fX3_isMetBy fu X0 a8_2 (mR X0 1000 x0)) fun v8 => (if v8 = 0 ∨ v8 = 1 then (some v8) else none)) else none)) else none)
def rmX10_isInDoubt : Room := { frames := 0, cells := 0, slots := 0, locals := 0 }
def fX10_isInDoubt (X0 : Mem)  (x0 : Nat) : Option (Int32) :=
  (if mK X0 x0 = some (10, 0) then (if (mI X0 1002 x0) = (-1) then (some (0 : Int32)) else (if (mI X0 1003 x0) = 0 then (some (1 : Int32)) else (some (0 : Int32)))) else none)
def rmX2_cellsWide : Room := { frames := 0, cells := 0, slots := 0, locals := 0 }
def fX2_cellsWide (X0 : Mem)  (x0 : Nat) : Option (Int32) :=
  (if mK X0 x0 = some (2, 0) then (if (mI X0 202 x0) = 0 then (some (1 : Int32)) else (some (((mI X0 205 x0) - (mI X0 203 x0)) + (1 : Int32)))) else none)
def rmX2_cellsHigh : Room := { frames := 0, cells := 0, slots := 0, locals := 0 }
def fX2_cellsHigh (X0 : Mem)  (x0 : Nat) : Option (Int32) :=
  (if mK X0 x0 = some (2, 0) then (if (mI X0 202 x0) = 0 then (some (1 : Int32)) else (some (((mI X0 206 x0) - (mI X0 204 x0)) + (1 : Int32)))) else none)
def rmX9_takenFrom : Room := { frames := 0, cells := 0, slots := 0, locals := 0 }
def fX9_takenFrom_L5b (fu : Nat) (X0 : Mem) (rec5 : Nat → Int32 → Int32 → Int64 → Int32 → Option (Int64)) (x0 : Nat) (x1 : Int32) (x2 : Int32) (x3 : Int64) (x5 : Int32) : Option (Int64) :=
  (if (x1 + x2) ≤ x5 then (some x3) else (if x5 < 0 then (some x3) else (if mK X0 x0 = some (9, 0) then (Option.bind (mR X0 900 x0) fun a24_2 => (Option.bind (alen X0 a24_2) fun n24_2 => (if (nI n24_2) ≤ x5 then (some x3) else (Option.bind (mR X0 900 x0) fun a35_4 => (if inb X0 2 a35_4 x5 = true then (rec5 x0 x1 x2 (x3 ||| (aJ X0 a35_4 x5.toNatClampNeg)) (x5 + (1 : Int32))) else none))))) else none)))
def fX9_takenFrom_L5 (fu : Nat) (X0 : Mem)  : Nat → Nat → Int32 → Int32 → Int64 → Int32 → Option (Int64)
  | 0 => fun _ _ _ _ _ => none
  | n + 1 => fun x0 x1 x2 x3 x5 => fX9_takenFrom_L5b fu X0 (fX9_takenFrom_L5 fu X0 n) x0 x1 x2 x3 x5
def fX9_takenFrom (fu : Nat) (X0 : Mem)  (x0 : Nat) (x1 : Int32) (x2 : Int32) : Option (Int64) :=
  (fX9_takenFrom_L5 fu X0 fu x0 x1 x2 (0 : Int64) x1)
def rmX9_firstFree : Room := { frames := 0, cells := 0, slots := 0, locals := 0 }
def fX9_firstFree_L3b (fu : Nat) (X0 : Mem) (rec3 : Int64 → Int64 → Int32 → Int32 → Option (Int32)) (x0 : Int64) (x2 : Int64) (x4 : Int32) (x5 : Int32) : Option (Int32) :=
  (if x4 < x5 then (some (-1)) else (if (lg_cmp ((x0 >>> (x5.toInt64 &&& 63)) &&& x2) (0 : Int64)) = 0 then (some x5) else (rec3 x0 x2 x4 (x5 + (1 : Int32)))))
def fX9_firstFree_L3 (fu : Nat) (X0 : Mem)  : Nat → Int64 → Int64 → Int32 → Int32 → Option (Int32)
  | 0 => fun _ _ _ _ => none
  | n + 1 => fun x0 x2 x4 x5 => fX9_firstFree_L3b fu X0 (fX9_firstFree_L3 fu X0 n) x0 x2 x4 x5
def fX9_firstFree (fu : Nat) (X0 : Mem)  (x0 : Int64) (x2 : Int64) (x4 : Int32) : Option (Int32) :=
  (fX9_firstFree_L3 fu X0 fu x0 x2 x4 (0 : Int32))
def rmX9_take : Room := { frames := 0, cells := 0, slots := 0, locals := 0 }
def fX9_take_L3b (fu : Nat) (rec3 : Mem → Nat → Int32 → Int32 → Int64 → Int32 → Option (Mem)) (X : Mem) (x0 : Nat) (x1 : Int32) (x2 : Int32) (x3 : Int64) (x5 : Int32) : Option (Mem) :=
  (if (x1 + x2) ≤ x5 then (some X) else (if x5 < 0 then (some X) else (if mK X x0 = some (9, 0) then (Option.bind (mR X 900 x0) fun a22_2 => (Option.bind (alen X a22_2) fun n22_2 => (if (nI n22_2) ≤ x5 then (some X) else (Option.bind (mR X 900 x0) fun a33_4 => (if inb X 2 a33_4 x5 = true then (if inb X 2 a33_4 x5 = true then (rec3 (sJ X a33_4 x5.toNatClampNeg ((aJ X a33_4 x5.toNatClampNeg) ||| x3)) x0 x1 x2 x3 (x5 + (1 : Int32))) else none) else none))))) else none)))
def fX9_take_L3 (fu : Nat)  : Nat → Mem → Nat → Int32 → Int32 → Int64 → Int32 → Option (Mem)
  | 0 => fun _ _ _ _ _ _ => none
  | n + 1 => fun X x0 x1 x2 x3 x5 => fX9_take_L3b fu (fX9_take_L3 fu n) X x0 x1 x2 x3 x5
def fX9_take (fu : Nat)  (X : Mem) (x0 : Nat) (x1 : Int32) (x2 : Int32) (x3 : Int64) : Option (Mem) :=
  (fX9_take_L3 fu fu X x0 x1 x2 x3 x1)
def rmX10_hangAt : Room := { frames := 0, cells := 0, slots := 0, locals := 0 }
def fX10_hangAt  (X : Mem) (x0 : Nat) (x1 : Int32) (x2 : Int32) : Option (Mem) :=
  (if mK X x0 = some (10, 0) then (some (wI (wI (wI X 1005 x0 x1) 1006 x0 x2) 1004 x0 (1 : Int32))) else none)
def rmX9_place : Room := { frames := 1, cells := 0, slots := 0, locals := 25 }
def fX9_place_L32b (fu : Nat) (rec32 : Mem → Nat → Nat → Int32 → Int32 → Int64 → Int32 → Option (Mem)) (X : Mem) (x0 : Nat) (x1 : Nat) (x2 : Int32) (x3 : Int32) (x4 : Int64) (x6 : Int32) : Option (Mem) :=
  (if mK X x0 = some (9, 0) then (if ((mI X 902 x0) - x3) < x6 then (some X) else (Option.bind (fX9_takenFrom fu X x0 x6 x3) fun v47 => (Option.bind (fX9_firstFree fu X v47 x4 ((mI X 901 x0) - x2)) fun v58 => (if v58 = (-1) then (rec32 X x0 x1 x2 x3 x4 (x6 + (1 : Int32))) else (Option.bind (fX9_take fu X x0 x6 x3 (x4 <<< (v58.toInt64 &&& 63))) fun X78 => (if mK X78 x1 = some (10, 0) then (Option.bind (fX10_hangAt X78 x1 v58 x6) fun X86 => (some X86)) else none)))))) else none)
def fX9_place_L32 (fu : Nat)  : Nat → Mem → Nat → Nat → Int32 → Int32 → Int64 → Int32 → Option (Mem)
  | 0 => fun _ _ _ _ _ _ _ => none
  | n + 1 => fun X x0 x1 x2 x3 x4 x6 => fX9_place_L32b fu (fX9_place_L32 fu n) X x0 x1 x2 x3 x4 x6
def fX9_place (fu : Nat)  (X : Mem) (x0 : Nat) (x1 : Option Nat) : Option (Mem) :=
  (Option.bind x1 fun a1_1 => (if mK X a1_1 = some (10, 0) then (Option.bind (mR X 1000 a1_1) fun a4_3 => (if mK X a4_3 = some (5, 0) then (Option.bind (mR X 505 a4_3) fun a7_5 => (if mK X a7_5 = some (2, 0) then (Option.bind (fX2_cellsWide X a7_5) fun v7 => (Option.bind (mR X 1000 a1_1) fun a15_7 => (if mK X a15_7 = some (5, 0) then (Option.bind (mR X 505 a15_7) fun a18_9 => (if mK X a18_9 = some (2, 0) then (Option.bind (fX2_cellsHigh X a18_9) fun v18 => (fX9_place_L32 fu fu X x0 a1_1 v7 v18 (((1 : Int64) <<< (v7.toInt64 &&& 63)) - (1 : Int64)) (0 : Int32))) else none)) else none))) else none)) else none)) else none))
def rmX11_layWall : Room := { frames := 5, cells := 0, slots := 0, locals := 106 }
def fX11_layWall_L64 (fu : Nat) (rec9 : Mem → Nat → Int32 → Option (Mem)) (X : Mem) (x0 : Nat) (x1 : Int32) : Option (Mem) :=
  (rec9 X x0 (x1 + (1 : Int32)))
def fX11_layWall_L9b (fu : Nat) (rec9 : Mem → Nat → Int32 → Option (Mem)) (X : Mem) (x0 : Nat) (x1 : Int32) : Option (Mem) :=
  (if mK X x0 = some (11, 0) then (if (mI X 1110 x0) ≤ x1 then (some X) else (Option.bind (mR X 1107 x0) fun a22_2 => (Option.bind (alen X a22_2) fun n22_2 => (if (nI n22_2) ≤ x1 then (some X) else (Option.bind (mR X 1107 x0) fun a31_4 => (if inb X 6 a31_4 x1 = true then (if (aR X a31_4 x1.toNatClampNeg) = none then (fX11_layWall_L64 fu rec9 X x0 x1) else (Option.bind (aR X a31_4 x1.toNatClampNeg) fun a39_5 => (if mK X a39_5 = some (10, 0) then (Option.bind (fX10_meetsExercise fu (wI X 1004 a39_5 (0 : Int32)) a39_5) fun v43 => (if v43 = 0 then (fX11_layWall_L64 fu rec9 (wI X 1004 a39_5 (0 : Int32)) x0 x1) else (Option.bind (fX10_isInDoubt (wI X 1004 a39_5 (0 : Int32)) a39_5) fun v50 => (if v50 = 0 then (Option.bind (mR (wI X 1004 a39_5 (0 : Int32)) 1104 x0) fun a61_7 => (if mK (wI X 1004 a39_5 (0 : Int32)) a61_7 = some (9, 0) then (Option.bind (fX9_place fu (wI X 1004 a39_5 (0 : Int32)) a61_7 (some a39_5)) fun X61 => (fX11_layWall_L64 fu rec9 X61 x0 x1)) else none)) else (fX11_layWall_L64 fu rec9 (wI X 1004 a39_5 (0 : Int32)) x0 x1))))) else none))) else none)))))) else none)
def fX11_layWall_L9 (fu : Nat)  : Nat → Mem → Nat → Int32 → Option (Mem)
  | 0 => fun _ _ _ => none
  | n + 1 => fun X x0 x1 => fX11_layWall_L9b fu (fX11_layWall_L9 fu n) X x0 x1
def fX11_layWall (fu : Nat)  (X : Mem) (x0 : Nat) : Option (Mem) :=
  (if mK X x0 = some (11, 0) then (Option.bind (mR X 1104 x0) fun a4_2 => (if mK X a4_2 = some (9, 0) then (Option.bind (fX9_makeEmpty fu X a4_2) fun X4 => (fX11_layWall_L9 fu fu X4 x0 (0 : Int32))) else none)) else none)
def rmX11_countMeeting : Room := { frames := 5, cells := 0, slots := 0, locals := 106 }
def fX11_countMeeting_L54 (fu : Nat) (X0 : Mem) (rec4 : Nat → (Option Nat) → Int32 → Int32 → Option (Int32)) (x0 : Nat) (x1 : Option Nat) (x2 : Int32) (x3 : Int32) : Option (Int32) :=
  (rec4 x0 x1 x2 (x3 + (1 : Int32)))
def fX11_countMeeting_L4b (fu : Nat) (X0 : Mem) (rec4 : Nat → (Option Nat) → Int32 → Int32 → Option (Int32)) (x0 : Nat) (x1 : Option Nat) (x2 : Int32) (x3 : Int32) : Option (Int32) :=
  (if mK X0 x0 = some (11, 0) then (if (mI X0 1110 x0) ≤ x3 then (some x2) else (Option.bind (mR X0 1107 x0) fun a17_2 => (Option.bind (alen X0 a17_2) fun n17_2 => (if (nI n17_2) ≤ x3 then (some x2) else (Option.bind (mR X0 1107 x0) fun a26_4 => (if inb X0 6 a26_4 x3 = true then (if (aR X0 a26_4 x3.toNatClampNeg) = none then (fX11_countMeeting_L54 fu X0 rec4 x0 x1 x2 x3) else (Option.bind (aR X0 a26_4 x3.toNatClampNeg) fun a36_5 => (if mK X0 a36_5 = some (10, 0) then (if (mR X0 1001 a36_5) = x1 then (Option.bind (fX10_meetsExercise fu X0 a36_5) fun v45 => (if v45 = 0 then (fX11_countMeeting_L54 fu X0 rec4 x0 x1 x2 x3) else (fX11_countMeeting_L54 fu X0 rec4 x0 x1 (x2 + (1 : Int32)) x3))) else (fX11_countMeeting_L54 fu X0 rec4 x0 x1 x2 x3)) else none))) else none)))))) else none)
def fX11_countMeeting_L4 (fu : Nat) (X0 : Mem)  : Nat → Nat → (Option Nat) → Int32 → Int32 → Option (Int32)
  | 0 => fun _ _ _ _ => none
  | n + 1 => fun x0 x1 x2 x3 => fX11_countMeeting_L4b fu X0 (fX11_countMeeting_L4 fu X0 n) x0 x1 x2 x3
def fX11_countMeeting (fu : Nat) (X0 : Mem)  (x0 : Nat) (x1 : Option Nat) : Option (Int32) :=
  (fX11_countMeeting_L4 fu X0 fu x0 x1 (0 : Int32) (0 : Int32))
def rmX11_allow : Room := { frames := 7, cells := 2, slots := 12, locals := 130 }
def fX11_allow (fu : Nat)  (X0 : Mem) (x0 : Nat) (x1 : Int32) (x2 : Int32) (x3 : Int32) : Option (String ⊕ (Int32 × Mem)) :=
  (if mK X0 x0 = some (11, 0) then (bE (fX11_exerciseAt X0 x0 x1) fun v2 => (bE (fX11_checkAllowance X0 x2 x3) fun v9 => (Option.bind v2 fun a16_2 => (if mK X0 a16_2 = some (3, 0) then (Option.bind (fX3_allowAtMost X0 a16_2 x2 x3) fun X16 => (if mK X16 x0 = some (11, 0) then (Option.bind (fX11_layWall fu X16 x0) fun X20 => (if mK X20 x0 = some (11, 0) then (Option.bind (fX11_countMeeting fu X20 x0 (some a16_2)) fun v26 => (some (.inr (v26, X20)))) else none)) else none)) else none)))) else none)
def rmX5_hasFormOf : Room := { frames := 0, cells := 0, slots := 0, locals := 0 }
def fX5_hasFormOf_L17b (fu : Nat) (X0 : Mem) (rec17 : Nat → Nat → Int32 → Option (Int32)) (x0 : Nat) (x1 : Nat) (x2 : Int32) : Option (Int32) :=
  (if mK X0 x0 = some (5, 0) then (Option.bind (mR X0 504 x0) fun a22_2 => (Option.bind (alen X0 a22_2) fun n22_2 => (if (nI n22_2) ≤ x2 then (some (1 : Int32)) else (if mK X0 x1 = some (5, 0) then (Option.bind (mR X0 504 x1) fun a31_5 => (Option.bind (alen X0 a31_5) fun n31_5 => (if (nI n31_5) ≤ x2 then (some (1 : Int32)) else (Option.bind (mR X0 504 x0) fun a40_7 => (if inb X0 0 a40_7 x2 = true then (Option.bind (mR X0 504 x1) fun a46_8 => (if inb X0 0 a46_8 x2 = true then (if (aI X0 a40_7 x2.toNatClampNeg) = (aI X0 a46_8 x2.toNatClampNeg) then (rec17 x0 x1 (x2 + (1 : Int32))) else (some (0 : Int32))) else none)) else none))))) else none)))) else none)
def fX5_hasFormOf_L17 (fu : Nat) (X0 : Mem)  : Nat → Nat → Nat → Int32 → Option (Int32)
  | 0 => fun _ _ _ => none
  | n + 1 => fun x0 x1 x2 => fX5_hasFormOf_L17b fu X0 (fX5_hasFormOf_L17 fu X0 n) x0 x1 x2
def fX5_hasFormOf (fu : Nat) (X0 : Mem)  (x0 : Nat) (x1 : Option Nat) : Option (Int32) :=
  (if mK X0 x0 = some (5, 0) then (Option.bind (mR X0 504 x0) fun a4_2 => (Option.bind (alen X0 a4_2) fun n4_2 => (Option.bind x1 fun a6_4 => (if mK X0 a6_4 = some (5, 0) then (Option.bind (mR X0 504 a6_4) fun a9_6 => (Option.bind (alen X0 a9_6) fun n9_6 => (if (nI n4_2) = (nI n9_6) then (fX5_hasFormOf_L17 fu X0 fu x0 a6_4 (0 : Int32)) else (some (0 : Int32))))) else none)))) else none)
def rmX11_findOriginal : Room := { frames := 1, cells := 0, slots := 0, locals := 22 }
def fX11_findOriginal_L70 (fu : Nat) (X0 : Mem) (rec2 : Nat → (Option Nat) → (Option Nat) → Int32 → Option (Int32)) (x0 : Nat) (x1 : Option Nat) (x2 : Option Nat) (x3 : Int32) : Option (Int32) :=
  (rec2 x0 x1 x2 (x3 + (1 : Int32)))
def fX11_findOriginal_L2b (fu : Nat) (X0 : Mem) (rec2 : Nat → (Option Nat) → (Option Nat) → Int32 → Option (Int32)) (x0 : Nat) (x1 : Option Nat) (x2 : Option Nat) (x3 : Int32) : Option (Int32) :=
  (if mK X0 x0 = some (11, 0) then (if (mI X0 1110 x0) ≤ x3 then (some (-1)) else (Option.bind (mR X0 1107 x0) fun a15_2 => (Option.bind (alen X0 a15_2) fun n15_2 => (if (nI n15_2) ≤ x3 then (some (-1)) else (Option.bind (mR X0 1107 x0) fun a24_4 => (if inb X0 6 a24_4 x3 = true then (if (aR X0 a24_4 x3.toNatClampNeg) = none then (fX11_findOriginal_L70 fu X0 rec2 x0 x1 x2 x3) else (Option.bind (aR X0 a24_4 x3.toNatClampNeg) fun a34_5 => (if mK X0 a34_5 = some (10, 0) then (if (mR X0 1001 a34_5) = x2 then (Option.bind (mR X0 1000 a34_5) fun a46_7 => (if mK X0 a46_7 = some (5, 0) then (Option.bind x1 fun a50_9 => (if mK X0 a50_9 = some (5, 0) then (if (mI X0 500 a46_7) = (mI X0 500 a50_9) then (fX11_findOriginal_L70 fu X0 rec2 x0 (some a50_9) x2 x3) else (Option.bind (mR X0 1000 a34_5) fun a62_11 => (if mK X0 a62_11 = some (5, 0) then (Option.bind (fX5_hasFormOf fu X0 a62_11 (some a50_9)) fun v62 => (if v62 = 0 then (fX11_findOriginal_L70 fu X0 rec2 x0 (some a50_9) x2 x3) else (some x3))) else none))) else none)) else none)) else (fX11_findOriginal_L70 fu X0 rec2 x0 x1 x2 x3)) else none))) else none)))))) else none)
def fX11_findOriginal_L2 (fu : Nat) (X0 : Mem)  : Nat → Nat → (Option Nat) → (Option Nat) → Int32 → Option (Int32)
  | 0 => fun _ _ _ _ => none
  | n + 1 => fun x0 x1 x2 x3 => fX11_findOriginal_L2b fu X0 (fX11_findOriginal_L2 fu X0 n) x0 x1 x2 x3
def fX11_findOriginal (fu : Nat) (X0 : Mem)  (x0 : Nat) (x1 : Option Nat) (x2 : Option Nat) : Option (Int32) :=
  (fX11_findOriginal_L2 fu X0 fu x0 x1 x2 (0 : Int32))
def rmX10_init : Room := { frames := 1, cells := 0, slots := 0, locals := 20 }
def fX10_init  (X : Mem) (x0 : Nat) (x1 : Option Nat) (x2 : Option Nat) (x3 : Int32) : Option (Mem) :=
  (if mK X x0 = some (10, 0) then (some (wI (wR (wR X 1000 x0 x1) 1001 x0 x2) 1002 x0 x3)) else none)
def rmX11_handIn : Room := { frames := 7, cells := 4, slots := 25, locals := 128 }
def fX11_handIn (fu : Nat)  (X0 : Mem) (x0 : Nat) (x1 : Int32) (x2 : Int32) : Option (String ⊕ (Int32 × Mem)) :=
  (if mK X0 x0 = some (11, 0) then (bE (fX11_programAt X0 x0 x1) fun v2 => (bE (fX11_exerciseAt X0 x0 x2) fun v8 => (if (mI X0 1110 x0) < 0 then (some (.inl "java/lang/IllegalStateException")) else (Option.bind (mR X0 1107 x0) fun a30_2 => (Option.bind (alen X0 a30_2) fun n30_2 => (if (mI X0 1110 x0) < (nI n30_2) then (Option.bind (some (mZ X0)) fun q50 => (Option.bind (some (nO X0 10)) fun X50 => (if mK X50 x0 = some (11, 0) then (Option.bind (fX11_findOriginal fu X50 x0 v2 v8) fun v61 => (Option.bind (fX10_init X50 q50 v2 v8 v61) fun X64 => (Option.bind (mR X0 1107 x0) fun a67_5 => (if inb X64 6 a67_5 (mI X0 1110 x0) = true then (if mK X64 q50 = some (10, 0) then (if mK (sR X64 a67_5 (mI X0 1110 x0).toNatClampNeg (some q50)) x0 = some (11, 0) then (Option.bind (fX11_layWall fu (wI (sR X64 a67_5 (mI X0 1110 x0).toNatClampNeg (some q50)) 1110 x0 ((mI X0 1110 x0) + (1 : Int32))) x0) fun X77 => (some (.inr ((mI X0 1110 x0), X77)))) else none) else none) else none)))) else none))) else (some (.inl "java/lang/IllegalStateException")))))))) else none)
def rmX11_workAt : Room := { frames := 6, cells := 1, slots := 6, locals := 90 }
def fX11_workAt_L30 (X0 : Mem)  (x2 : Option Nat) : Option (String ⊕ (Option Nat)) :=
  (if x2 = none then (some (.inl "java/lang/IndexOutOfBoundsException")) else (some (.inr x2)))
def fX11_workAt (X0 : Mem)  (x0 : Nat) (x1 : Int32) : Option (String ⊕ (Option Nat)) :=
  (if x1 < 0 then (fX11_workAt_L30 X0 none) else (if mK X0 x0 = some (11, 0) then (if (mI X0 1110 x0) ≤ x1 then (fX11_workAt_L30 X0 none) else (Option.bind (mR X0 1107 x0) fun a19_2 => (Option.bind (alen X0 a19_2) fun n19_2 => (if (nI n19_2) ≤ x1 then (fX11_workAt_L30 X0 none) else (Option.bind (mR X0 1107 x0) fun a28_4 => (if inb X0 6 a28_4 x1 = true then (fX11_workAt_L30 X0 (aR X0 a28_4 x1.toNatClampNeg)) else none)))))) else none))
def rmX11_clear : Room := { frames := 7, cells := 1, slots := 6, locals := 128 }
def fX11_clear (fu : Nat)  (X0 : Mem) (x0 : Nat) (x1 : Int32) (x2 : Int32) : Option (String ⊕ (Int32 × Mem)) :=
  (if mK X0 x0 = some (11, 0) then (bE (fX11_workAt X0 x0 x1) fun v2 => (Option.bind v2 fun a7_2 => (if mK X0 a7_2 = some (10, 0) then (if x2 = 0 ∨ x2 = 1 then (Option.bind (fX11_layWall fu (wI X0 1003 a7_2 x2) x0) fun X18 => (if (mI X0 1003 a7_2) = 0 ∨ (mI X0 1003 a7_2) = 1 then (some (.inr ((mI X0 1003 a7_2), X18))) else none)) else none) else none))) else none)
def rmX9_measure : Room := { frames := 0, cells := 0, slots := 0, locals := 0 }
def fX9_measure  (X : Mem) (x0 : Nat) (x1 : Int32) (x2 : Int32) : Option (Mem) :=
  (if mK X x0 = some (9, 0) then (some (wI (wI X 901 x0 x1) 902 x0 x2)) else none)
def rmX11_countHanging : Room := { frames := 0, cells := 0, slots := 0, locals := 0 }
def fX11_countHanging_L42 (fu : Nat) (X0 : Mem) (rec4 : Nat → Int32 → Int32 → Option (Int32)) (x0 : Nat) (x1 : Int32) (x2 : Int32) : Option (Int32) :=
  (rec4 x0 x1 (x2 + (1 : Int32)))
def fX11_countHanging_L4b (fu : Nat) (X0 : Mem) (rec4 : Nat → Int32 → Int32 → Option (Int32)) (x0 : Nat) (x1 : Int32) (x2 : Int32) : Option (Int32) :=
  (if mK X0 x0 = some (11, 0) then (if (mI X0 1110 x0) ≤ x2 then (some x1) else (Option.bind (mR X0 1107 x0) fun a17_2 => (Option.bind (alen X0 a17_2) fun n17_2 => (if (nI n17_2) ≤ x2 then (some x1) else (Option.bind (mR X0 1107 x0) fun a26_4 => (if inb X0 6 a26_4 x2 = true then (if (aR X0 a26_4 x2.toNatClampNeg) = none then (fX11_countHanging_L42 fu X0 rec4 x0 x1 x2) else (Option.bind (aR X0 a26_4 x2.toNatClampNeg) fun a33_5 => (if mK X0 a33_5 = some (10, 0) then (if (mI X0 1004 a33_5) = 0 then (fX11_countHanging_L42 fu X0 rec4 x0 x1 x2) else (fX11_countHanging_L42 fu X0 rec4 x0 (x1 + (1 : Int32)) x2)) else none))) else none)))))) else none)
def fX11_countHanging_L4 (fu : Nat) (X0 : Mem)  : Nat → Nat → Int32 → Int32 → Option (Int32)
  | 0 => fun _ _ _ => none
  | n + 1 => fun x0 x1 x2 => fX11_countHanging_L4b fu X0 (fX11_countHanging_L4 fu X0 n) x0 x1 x2
def fX11_countHanging (fu : Nat) (X0 : Mem)  (x0 : Nat) : Option (Int32) :=
  (fX11_countHanging_L4 fu X0 fu x0 (0 : Int32) (0 : Int32))
def rmX11_setWall : Room := { frames := 6, cells := 1, slots := 6, locals := 128 }
def fX11_setWall (fu : Nat)  (X0 : Mem) (x0 : Nat) (x1 : Int32) (x2 : Int32) : Option (String ⊕ (Int32 × Mem)) :=
  (if x1 < (1 : Int32) then (some (.inl "java/lang/IllegalArgumentException")) else (if (40 : Int32) < x1 then (some (.inl "java/lang/IllegalArgumentException")) else (if x2 < (1 : Int32) then (some (.inl "java/lang/IllegalArgumentException")) else (if x2 ≤ (40 : Int32) then (if mK X0 x0 = some (11, 0) then (Option.bind (mR X0 1104 x0) fun a38_2 => (if mK X0 a38_2 = some (9, 0) then (Option.bind (fX9_measure X0 a38_2 x1 x2) fun X38 => (if mK X38 x0 = some (11, 0) then (Option.bind (fX11_layWall fu X38 x0) fun X42 => (if mK X42 x0 = some (11, 0) then (Option.bind (fX11_countHanging fu X42 x0) fun v46 => (some (.inr (v46, X42)))) else none)) else none)) else none)) else none) else (some (.inl "java/lang/IllegalArgumentException"))))))
def rmX11_drafted : Room := { frames := 1, cells := 0, slots := 0, locals := 20 }
def fX11_drafted (X0 : Mem)  (x0 : Nat) : Option (Int32) :=
  (if mK X0 x0 = some (11, 0) then (Option.bind (mR X0 1100 x0) fun a4_2 => (if mK X0 a4_2 = some (1, 0) then (Option.bind (fX1_length X0 a4_2) fun v4 => (some v4)) else none)) else none)
def rmX11_programs : Room := { frames := 0, cells := 0, slots := 0, locals := 0 }
def fX11_programs (X0 : Mem)  (x0 : Nat) : Option (Int32) :=
  (if mK X0 x0 = some (11, 0) then (some (mI X0 1108 x0)) else none)
def rmX11_fault : Room := { frames := 7, cells := 1, slots := 6, locals := 112 }
def fX11_fault (X0 : Mem)  (x0 : Nat) (x1 : Int32) : Option (String ⊕ (Int32)) :=
  (if mK X0 x0 = some (11, 0) then (bE (fX11_programAt X0 x0 x1) fun v2 => (Option.bind v2 fun a5_2 => (if mK X0 a5_2 = some (5, 0) then (some (.inr (mI X0 506 a5_2))) else none))) else none)
def rmX11_steps : Room := { frames := 7, cells := 1, slots := 6, locals := 112 }
def fX11_steps (X0 : Mem)  (x0 : Nat) (x1 : Int32) : Option (String ⊕ (Int32)) :=
  (if mK X0 x0 = some (11, 0) then (bE (fX11_programAt X0 x0 x1) fun v2 => (Option.bind v2 fun a5_2 => (if mK X0 a5_2 = some (5, 0) then (some (.inr (mI X0 507 a5_2))) else none))) else none)
def rmX11_strokes : Room := { frames := 7, cells := 1, slots := 6, locals := 112 }
def fX11_strokes (X0 : Mem)  (x0 : Nat) (x1 : Int32) : Option (String ⊕ (Int32)) :=
  (if mK X0 x0 = some (11, 0) then (bE (fX11_programAt X0 x0 x1) fun v2 => (Option.bind v2 fun a5_2 => (if mK X0 a5_2 = some (5, 0) then (Option.bind (mR X0 505 a5_2) fun a8_4 => (if mK X0 a8_4 = some (2, 0) then (some (.inr (mI X0 202 a8_4))) else none)) else none))) else none)
def rmX2_makeEmpty : Room := { frames := 0, cells := 0, slots := 0, locals := 0 }
def fX2_makeEmpty_L7b (fu : Nat) (rec7 : Mem → Nat → Int32 → Option (Mem)) (X : Mem) (x0 : Nat) (x1 : Int32) : Option (Mem) :=
  (if (16 : Int32) ≤ x1 then (some X) else (if mK X x0 = some (2, 0) then (Option.bind (mR X 200 x0) fun a18_2 => (Option.bind (alen X a18_2) fun n18_2 => (if (nI n18_2) ≤ x1 then (some X) else (Option.bind (mR X 201 x0) fun a27_4 => (Option.bind (alen X a27_4) fun n27_4 => (if (nI n27_4) ≤ x1 then (some X) else (Option.bind (mR X 200 x0) fun a37_6 => (if inb X 0 a37_6 x1 = true then (Option.bind (mR (sI X a37_6 x1.toNatClampNeg (0 : Int32)) 201 x0) fun a44_7 => (if inb (sI X a37_6 x1.toNatClampNeg (0 : Int32)) 0 a44_7 x1 = true then (rec7 (sI (sI X a37_6 x1.toNatClampNeg (0 : Int32)) a44_7 x1.toNatClampNeg (0 : Int32)) x0 (x1 + (1 : Int32))) else none)) else none)))))))) else none))
def fX2_makeEmpty_L7 (fu : Nat)  : Nat → Mem → Nat → Int32 → Option (Mem)
  | 0 => fun _ _ _ => none
  | n + 1 => fun X x0 x1 => fX2_makeEmpty_L7b fu (fX2_makeEmpty_L7 fu n) X x0 x1
def fX2_makeEmpty (fu : Nat)  (X : Mem) (x0 : Nat) : Option (Mem) :=
  (if mK X x0 = some (2, 0) then (fX2_makeEmpty_L7 fu fu (wI X 202 x0 (0 : Int32)) x0 (0 : Int32)) else none)
def rmX11_strokesBySteps : Room := { frames := 7, cells := 2, slots := 12, locals := 143 }
def fX11_strokesBySteps (fu : Nat)  (X0 : Mem) (x0 : Nat) (x1 : Int32) (x2 : Int32) : Option (String ⊕ (Int32 × Mem)) :=
  (if mK X0 x0 = some (11, 0) then (bE (fX11_programAt X0 x0 x1) fun v2 => (if x2 < 0 then (some (.inl "java/lang/IllegalArgumentException")) else (if x2 ≤ (600 : Int32) then (Option.bind (mR X0 1102 x0) fun a31_2 => (if mK X0 a31_2 = some (2, 0) then (Option.bind (fX2_makeEmpty fu X0 a31_2) fun X31 => (if mK X31 x0 = some (11, 0) then (Option.bind (mR X31 1101 x0) fun a44_5 => (if mK X31 a44_5 = some (7, 0) then (Option.bind (fX7_perform fu X31 a44_5 v2 (mR X31 1102 x0) x2) fun X44 => (if mK X44 x0 = some (11, 0) then (Option.bind (mR X44 1102 x0) fun a51_8 => (if mK X44 a51_8 = some (2, 0) then (some (.inr ((mI X44 202 a51_8), X44))) else none)) else none)) else none)) else none)) else none)) else (some (.inl "java/lang/IllegalArgumentException"))))) else none)
def rmX2_hasStroke : Room := { frames := 1, cells := 0, slots := 0, locals := 20 }
def fX2_hasStroke_L15 (X0 : Mem)  (x1 : Int32) (x2 : Int32) (s0 : Option Nat) : Option (Int32) :=
  (Option.bind (fX11_isOnGround X0 x1) fun v18 => (if v18 = 0 then (some (0 : Int32)) else (if x2 < 0 then (some (0 : Int32)) else (Option.bind s0 fun a31_1 => (Option.bind (alen X0 a31_1) fun n31_1 => (if (nI n31_1) ≤ x2 then (some (0 : Int32)) else (if inb X0 0 a31_1 x2 = true then (if (((aI X0 a31_1 x2.toNatClampNeg) >>> (x1 &&& 31)) &&& (1 : Int32)) = (1 : Int32) then (some (1 : Int32)) else (some (0 : Int32))) else none)))))))
def fX2_hasStroke (X0 : Mem)  (x0 : Nat) (x1 : Int32) (x2 : Int32) (x3 : Int32) : Option (Int32) :=
  (if x3 = 0 then (if mK X0 x0 = some (2, 0) then (fX2_hasStroke_L15 X0 x1 x2 (mR X0 200 x0)) else none) else (if mK X0 x0 = some (2, 0) then (fX2_hasStroke_L15 X0 x1 x2 (mR X0 201 x0)) else none))
def rmX11_isDrawn : Room := { frames := 7, cells := 2, slots := 12, locals := 112 }
def fX11_isDrawn (X0 : Mem)  (x0 : Nat) (x1 : Int32) (x2 : Int32) (x3 : Int32) (x4 : Int32) : Option (String ⊕ (Int32)) :=
  (if mK X0 x0 = some (11, 0) then (bE (fX11_programAt X0 x0 x1) fun v2 => (Option.bind (fX11_isOnGround X0 x2) fun v8 => (if v8 = 0 then (some (.inl "java/lang/IndexOutOfBoundsException")) else (Option.bind (fX11_isOnGround X0 x3) fun v15 => (if v15 = 0 then (some (.inl "java/lang/IndexOutOfBoundsException")) else (Option.bind v2 fun a33_2 => (if mK X0 a33_2 = some (5, 0) then (Option.bind (mR X0 505 a33_2) fun a40_4 => (if mK X0 a40_4 = some (2, 0) then (Option.bind (fX2_hasStroke X0 a40_4 x2 x3 x4) fun v40 => (if v40 = 0 ∨ v40 = 1 then (some (.inr v40)) else none)) else none)) else none))))))) else none)
def rmX11_areAlike : Room := { frames := 7, cells := 2, slots := 12, locals := 112 }
def fX11_areAlike (fu : Nat) (X0 : Mem)  (x0 : Nat) (x1 : Int32) (x2 : Int32) : Option (String ⊕ (Int32)) :=
  (if mK X0 x0 = some (11, 0) then (bE (fX11_programAt X0 x0 x1) fun v2 => (bE (fX11_programAt X0 x0 x2) fun v8 => (Option.bind v2 fun a14_2 => (if mK X0 a14_2 = some (5, 0) then (Option.bind v8 fun a19_4 => (if mK X0 a19_4 = some (5, 0) then (Option.bind (mR X0 505 a14_2) fun a22_6 => (if mK X0 a22_6 = some (2, 0) then (Option.bind (fX2_isShiftOf fu X0 a22_6 (mR X0 505 a19_4)) fun v22 => (if v22 = 0 ∨ v22 = 1 then (some (.inr v22)) else none)) else none)) else none)) else none)))) else none)
def rmX11_haveOneForm : Room := { frames := 7, cells := 2, slots := 12, locals := 112 }
def fX11_haveOneForm (fu : Nat) (X0 : Mem)  (x0 : Nat) (x1 : Int32) (x2 : Int32) : Option (String ⊕ (Int32)) :=
  (if mK X0 x0 = some (11, 0) then (bE (fX11_programAt X0 x0 x1) fun v2 => (bE (fX11_programAt X0 x0 x2) fun v8 => (Option.bind v2 fun a16_2 => (if mK X0 a16_2 = some (5, 0) then (Option.bind (fX5_hasFormOf fu X0 a16_2 v8) fun v16 => (if v16 = 0 ∨ v16 = 1 then (some (.inr v16)) else none)) else none)))) else none)
def rmJ9_max_7cf53 : Room := { frames := 0, cells := 0, slots := 0, locals := 0 }
def fJ9_max_7cf53 (X0 : Mem)  (x0 : Int32) (x1 : Int32) : Option (Int32) :=
  (if x0 < x1 then (some x1) else (some x0))
def rmX0_fillBelow : Room := { frames := 1, cells := 0, slots := 0, locals := 21 }
def fX0_fillBelow_L108 (fu : Nat) (rec18 : Mem → Nat → Int32 → (Option Nat) → Int32 → Int32 → Option (Mem)) (X : Mem) (x0 : Nat) (x1 : Int32) (x2 : Nat) (x3 : Int32) (x4 : Int32) : Option (Mem) :=
  (rec18 X x0 x1 (some x2) x3 (x4 + (1 : Int32)))
def fX0_fillBelow_L18b (fu : Nat) (rec18 : Mem → Nat → Int32 → (Option Nat) → Int32 → Int32 → Option (Mem)) (X : Mem) (x0 : Nat) (x1 : Int32) (x2 : Option Nat) (x3 : Int32) (x4 : Int32) : Option (Mem) :=
  (if x3 < x4 then (some X) else (if mK X x0 = some (0, 0) then (Option.bind (mR X 0 x0) fun a30_2 => (Option.bind (alen X a30_2) fun n30_2 => (if (nI n30_2) ≤ x4 then (some X) else (Option.bind (mR X 1 x0) fun a40_4 => (Option.bind (alen X a40_4) fun n40_4 => (if (nI n40_4) ≤ x4 then (some X) else (Option.bind x2 fun a47_6 => (Option.bind (alen X a47_6) fun n47_6 => (if (nI n47_6) < x4 then (some X) else (if inb X 0 a47_6 (x4 - (1 : Int32)) = true then (if (aI X a47_6 (x4 - (1 : Int32)).toNatClampNeg) = x1 then (Option.bind (mR X 0 x0) fun a75_10 => (if inb X 0 a75_10 (x4 - (1 : Int32)) = true then (Option.bind (mR X 1 x0) fun a78_11 => (if inb X 0 a78_11 x4 = true then (fX0_fillBelow_L108 fu rec18 (sI X a78_11 x4.toNatClampNeg ((aI X a75_10 (x4 - (1 : Int32)).toNatClampNeg) + (1 : Int32))) x0 x1 a47_6 x3 x4) else none)) else none)) else (Option.bind (mR X 0 x0) fun a94_8 => (if inb X 0 a94_8 x4 = true then (Option.bind (mR X 1 x0) fun a103_9 => (if inb X 0 a103_9 (x4 - (1 : Int32)) = true then (Option.bind (fJ9_max_7cf53 X (aI X a94_8 x4.toNatClampNeg) (aI X a103_9 (x4 - (1 : Int32)).toNatClampNeg)) fun v104 => (if inb X 0 a103_9 x4 = true then (fX0_fillBelow_L108 fu rec18 (sI X a103_9 x4.toNatClampNeg v104) x0 x1 a47_6 x3 x4) else none)) else none)) else none))) else none)))))))))) else none))
def fX0_fillBelow_L18 (fu : Nat)  : Nat → Mem → Nat → Int32 → (Option Nat) → Int32 → Int32 → Option (Mem)
  | 0 => fun _ _ _ _ _ _ => none
  | n + 1 => fun X x0 x1 x2 x3 x4 => fX0_fillBelow_L18b fu (fX0_fillBelow_L18 fu n) X x0 x1 x2 x3 x4
def fX0_fillBelow_L15 (fu : Nat)  (X : Mem) (x0 : Nat) (x1 : Int32) (x2 : Option Nat) (x3 : Int32) : Option (Mem) :=
  (fX0_fillBelow_L18 fu fu X x0 x1 x2 x3 (1 : Int32))
def fX0_fillBelow (fu : Nat)  (X : Mem) (x0 : Nat) (x1 : Int32) (x2 : Option Nat) (x3 : Int32) : Option (Mem) :=
  (if mK X x0 = some (0, 0) then (Option.bind (mR X 1 x0) fun a4_2 => (Option.bind (alen X a4_2) fun n4_2 => (if (nI n4_2) ≤ 0 then (fX0_fillBelow_L15 fu X x0 x1 x2 x3) else (Option.bind (mR X 1 x0) fun a14_4 => (if inb X 0 a14_4 (0 : Int32) = true then (fX0_fillBelow_L15 fu (sI X a14_4 (0 : Int32).toNatClampNeg (0 : Int32)) x0 x1 x2 x3) else none))))) else none)
def rmX0_longestCommon : Room := { frames := 2, cells := 0, slots := 0, locals := 45 }
def fX0_longestCommon_L51b (fu : Nat) (rec51 : Mem → Nat → (Option Nat) → Nat → Int32 → Int32 → Option (Int32 × Mem)) (X : Mem) (x0 : Nat) (x1 : Option Nat) (x2 : Nat) (x3 : Int32) (x4 : Int32) : Option (Int32 × Mem) :=
  (Option.bind x1 fun a54_1 => (Option.bind (alen X a54_1) fun n54_1 => (if (nI n54_1) ≤ x4 then (if x3 < 0 then (some ((0 : Int32), X)) else (if mK X x0 = some (0, 0) then (Option.bind (mR X 0 x0) fun a103_4 => (Option.bind (alen X a103_4) fun n103_4 => (if (nI n103_4) ≤ x3 then (some ((0 : Int32), X)) else (Option.bind (mR X 0 x0) fun a112_6 => (if inb X 0 a112_6 x3 = true then (some ((aI X a112_6 x3.toNatClampNeg), X)) else none))))) else none)) else (if inb X 0 a54_1 x4 = true then (if mK X x0 = some (0, 0) then (Option.bind (fX0_fillBelow fu X x0 (aI X a54_1 x4.toNatClampNeg) (some x2) x3) fun X65 => (if mK X65 x0 = some (0, 0) then (rec51 (wR (wR X65 0 x0 (mR X65 1 x0)) 1 x0 (mR X65 0 x0)) x0 (some a54_1) x2 x3 (x4 + (1 : Int32))) else none)) else none) else none))))
def fX0_longestCommon_L51 (fu : Nat)  : Nat → Mem → Nat → (Option Nat) → Nat → Int32 → Int32 → Option (Int32 × Mem)
  | 0 => fun _ _ _ _ _ _ => none
  | n + 1 => fun X x0 x1 x2 x3 x4 => fX0_longestCommon_L51b fu (fX0_longestCommon_L51 fu n) X x0 x1 x2 x3 x4
def fX0_longestCommon_L24b (fu : Nat) (rec24 : Mem → Nat → (Option Nat) → Nat → Int32 → Int32 → Option (Int32 × Mem)) (X : Mem) (x0 : Nat) (x1 : Option Nat) (x2 : Nat) (x3 : Int32) (x4 : Int32) : Option (Int32 × Mem) :=
  (if mK X x0 = some (0, 0) then (Option.bind (mR X 0 x0) fun a30_2 => (Option.bind (alen X a30_2) fun n30_2 => (if (nI n30_2) ≤ x4 then (fX0_longestCommon_L51 fu fu X x0 x1 x2 x3 (0 : Int32)) else (Option.bind (mR X 0 x0) fun a41_4 => (if inb X 0 a41_4 x4 = true then (rec24 (sI X a41_4 x4.toNatClampNeg (0 : Int32)) x0 x1 x2 x3 (x4 + (1 : Int32))) else none))))) else none)
def fX0_longestCommon_L24 (fu : Nat)  : Nat → Mem → Nat → (Option Nat) → Nat → Int32 → Int32 → Option (Int32 × Mem)
  | 0 => fun _ _ _ _ _ _ => none
  | n + 1 => fun X x0 x1 x2 x3 x4 => fX0_longestCommon_L24b fu (fX0_longestCommon_L24 fu n) X x0 x1 x2 x3 x4
def fX0_longestCommon (fu : Nat)  (X : Mem) (x0 : Nat) (x1 : Option Nat) (x2 : Option Nat) : Option (Int32 × Mem) :=
  (Option.bind x2 fun a1_1 => (Option.bind (alen X a1_1) fun n1_1 => (if mK X x0 = some (0, 0) then (Option.bind (mR X 0 x0) fun a6_4 => (Option.bind (alen X a6_4) fun n6_4 => (Option.bind (mR X 1 x0) fun a11_6 => (Option.bind (alen X a11_6) fun n11_6 => (Option.bind (fJ9_min_7cf53 X (nI n6_4) (nI n11_6)) fun v12 => (Option.bind (fJ9_min_7cf53 X (nI n1_1) (v12 - (1 : Int32))) fun v17 => (fX0_longestCommon_L24 fu fu X x0 x1 a1_1 v17 (0 : Int32)))))))) else none)))
def rmX11_likeness : Room := { frames := 7, cells := 2, slots := 12, locals := 112 }
def fX11_likeness (fu : Nat)  (X0 : Mem) (x0 : Nat) (x1 : Int32) (x2 : Int32) : Option (String ⊕ (Int32 × Mem)) :=
  (if mK X0 x0 = some (11, 0) then (bE (fX11_programAt X0 x0 x1) fun v2 => (bE (fX11_programAt X0 x0 x2) fun v8 => (Option.bind v2 fun a14_2 => (if mK X0 a14_2 = some (5, 0) then (Option.bind (fX5_length X0 a14_2) fun v14 => (Option.bind v8 fun a19_4 => (if mK X0 a19_4 = some (5, 0) then (Option.bind (fX5_length X0 a19_4) fun v19 => (if 0 < (v14 + v19) then (Option.bind (mR X0 1103 x0) fun a48_6 => (if mK X0 a48_6 = some (0, 0) then (bW (fX0_longestCommon fu X0 a48_6 (mR X0 504 a14_2) (mR X0 504 a19_4)) fun v48 X48 => (if (v14 + v19) = 0 then none else (some (.inr ((((200 : Int32) * v48) / (v14 + v19)), X48))))) else none)) else (some (.inr ((0 : Int32), X0))))) else none))) else none)))) else none)
def rmX11_works : Room := { frames := 0, cells := 0, slots := 0, locals := 0 }
def fX11_works (X0 : Mem)  (x0 : Nat) : Option (Int32) :=
  (if mK X0 x0 = some (11, 0) then (some (mI X0 1110 x0)) else none)
def rmX11_meets : Room := { frames := 7, cells := 1, slots := 6, locals := 112 }
def fX11_meets (fu : Nat) (X0 : Mem)  (x0 : Nat) (x1 : Int32) : Option (String ⊕ (Int32)) :=
  (if mK X0 x0 = some (11, 0) then (bE (fX11_workAt X0 x0 x1) fun v2 => (Option.bind v2 fun a5_2 => (if mK X0 a5_2 = some (10, 0) then (Option.bind (fX10_meetsExercise fu X0 a5_2) fun v5 => (if v5 = 0 ∨ v5 = 1 then (some (.inr v5)) else none)) else none))) else none)
def rmX11_copyOf : Room := { frames := 7, cells := 1, slots := 6, locals := 112 }
def fX11_copyOf (X0 : Mem)  (x0 : Nat) (x1 : Int32) : Option (String ⊕ (Int32)) :=
  (if mK X0 x0 = some (11, 0) then (bE (fX11_workAt X0 x0 x1) fun v2 => (Option.bind v2 fun a5_2 => (if mK X0 a5_2 = some (10, 0) then (some (.inr (mI X0 1002 a5_2))) else none))) else none)
def rmX11_hangs : Room := { frames := 7, cells := 1, slots := 6, locals := 112 }
def fX11_hangs (X0 : Mem)  (x0 : Nat) (x1 : Int32) : Option (String ⊕ (Int32)) :=
  (if mK X0 x0 = some (11, 0) then (bE (fX11_workAt X0 x0 x1) fun v2 => (Option.bind v2 fun a7_2 => (if mK X0 a7_2 = some (10, 0) then (if (mI X0 1004 a7_2) = 0 then (some (.inr (-1))) else (some (.inr (((100 : Int32) * (mI X0 1005 a7_2)) + (mI X0 1006 a7_2))))) else none))) else none)
def rmX9_hasCell : Room := { frames := 0, cells := 0, slots := 0, locals := 0 }
def fX9_hasCell (X0 : Mem)  (x0 : Nat) (x1 : Int32) (x2 : Int32) : Option (Int32) :=
  (if x1 < 0 then (some (0 : Int32)) else (if mK X0 x0 = some (9, 0) then (if (mI X0 901 x0) ≤ x1 then (some (0 : Int32)) else (if x2 < 0 then (some (0 : Int32)) else (if (mI X0 902 x0) ≤ x2 then (some (0 : Int32)) else (some (1 : Int32))))) else none))
def rmX10_covers : Room := { frames := 1, cells := 0, slots := 0, locals := 20 }
def fX10_covers (X0 : Mem)  (x0 : Nat) (x1 : Int32) (x2 : Int32) : Option (Int32) :=
  (if mK X0 x0 = some (10, 0) then (if (mI X0 1004 x0) = 0 then (some (0 : Int32)) else (if x1 < (mI X0 1005 x0) then (some (0 : Int32)) else (Option.bind (mR X0 1000 x0) fun a24_2 => (if mK X0 a24_2 = some (5, 0) then (Option.bind (mR X0 505 a24_2) fun a27_4 => (if mK X0 a27_4 = some (2, 0) then (Option.bind (fX2_cellsWide X0 a27_4) fun v27 => (if ((mI X0 1005 x0) + v27) ≤ x1 then (some (0 : Int32)) else (if x2 < (mI X0 1006 x0) then (some (0 : Int32)) else (Option.bind (mR X0 1000 x0) fun a51_6 => (if mK X0 a51_6 = some (5, 0) then (Option.bind (mR X0 505 a51_6) fun a54_8 => (if mK X0 a54_8 = some (2, 0) then (Option.bind (fX2_cellsHigh X0 a54_8) fun v54 => (if ((mI X0 1006 x0) + v54) ≤ x2 then (some (0 : Int32)) else (some (1 : Int32)))) else none)) else none))))) else none)) else none)))) else none)
def rmX11_onWall : Room := { frames := 6, cells := 1, slots := 6, locals := 90 }
def fX11_onWall_L66 (fu : Nat) (X0 : Mem) (rec24 : Nat → Int32 → Int32 → Int32 → Option (String ⊕ (Int32))) (x0 : Nat) (x1 : Int32) (x2 : Int32) (x3 : Int32) : Option (String ⊕ (Int32)) :=
  (rec24 x0 x1 x2 (x3 + (1 : Int32)))
def fX11_onWall_L24b (fu : Nat) (X0 : Mem) (rec24 : Nat → Int32 → Int32 → Int32 → Option (String ⊕ (Int32))) (x0 : Nat) (x1 : Int32) (x2 : Int32) (x3 : Int32) : Option (String ⊕ (Int32)) :=
  (if mK X0 x0 = some (11, 0) then (if (mI X0 1110 x0) ≤ x3 then (some (.inr (-1))) else (Option.bind (mR X0 1107 x0) fun a37_2 => (Option.bind (alen X0 a37_2) fun n37_2 => (if (nI n37_2) ≤ x3 then (some (.inr (-1))) else (Option.bind (mR X0 1107 x0) fun a46_4 => (if inb X0 6 a46_4 x3 = true then (if (aR X0 a46_4 x3.toNatClampNeg) = none then (fX11_onWall_L66 fu X0 rec24 x0 x1 x2 x3) else (Option.bind (aR X0 a46_4 x3.toNatClampNeg) fun a58_5 => (if mK X0 a58_5 = some (10, 0) then (Option.bind (fX10_covers X0 a58_5 x1 x2) fun v58 => (if v58 = 0 then (fX11_onWall_L66 fu X0 rec24 x0 x1 x2 x3) else (some (.inr x3)))) else none))) else none)))))) else none)
def fX11_onWall_L24 (fu : Nat) (X0 : Mem)  : Nat → Nat → Int32 → Int32 → Int32 → Option (String ⊕ (Int32))
  | 0 => fun _ _ _ _ => none
  | n + 1 => fun x0 x1 x2 x3 => fX11_onWall_L24b fu X0 (fX11_onWall_L24 fu X0 n) x0 x1 x2 x3
def fX11_onWall (fu : Nat) (X0 : Mem)  (x0 : Nat) (x1 : Int32) (x2 : Int32) : Option (String ⊕ (Int32)) :=
  (if mK X0 x0 = some (11, 0) then (Option.bind (mR X0 1104 x0) fun a6_2 => (if mK X0 a6_2 = some (9, 0) then (Option.bind (fX9_hasCell X0 a6_2 x1 x2) fun v6 => (if v6 = 0 then (some (.inl "java/lang/IndexOutOfBoundsException")) else (fX11_onWall_L24 fu X0 fu x0 x1 x2 (0 : Int32)))) else none)) else none)
def rmX11_hung : Room := { frames := 7, cells := 1, slots := 6, locals := 110 }
def fX11_hung_L61 (fu : Nat) (X0 : Mem) (rec8 : Nat → Int32 → Int32 → Int32 → Option (String ⊕ (Int32))) (x0 : Nat) (x1 : Int32) (x2 : Int32) (x3 : Int32) : Option (String ⊕ (Int32)) :=
  (rec8 x0 x1 x2 (x3 + (1 : Int32)))
def fX11_hung_L8b (fu : Nat) (X0 : Mem) (rec8 : Nat → Int32 → Int32 → Int32 → Option (String ⊕ (Int32))) (x0 : Nat) (x1 : Int32) (x2 : Int32) (x3 : Int32) : Option (String ⊕ (Int32)) :=
  (if mK X0 x0 = some (11, 0) then (if (mI X0 1110 x0) ≤ x3 then (some (.inr x2)) else (Option.bind (mR X0 1107 x0) fun a21_2 => (Option.bind (alen X0 a21_2) fun n21_2 => (if (nI n21_2) ≤ x3 then (some (.inr x2)) else (Option.bind (mR X0 1107 x0) fun a30_4 => (if inb X0 6 a30_4 x3 = true then (if (aR X0 a30_4 x3.toNatClampNeg) = none then (fX11_hung_L61 fu X0 rec8 x0 x1 x2 x3) else (Option.bind (aR X0 a30_4 x3.toNatClampNeg) fun a40_5 => (if mK X0 a40_5 = some (10, 0) then (if (mI X0 1004 a40_5) = 0 then (fX11_hung_L61 fu X0 rec8 x0 x1 x2 x3) else (Option.bind (mR X0 1000 a40_5) fun a51_7 => (if mK X0 a51_7 = some (5, 0) then (if (mI X0 500 a51_7) = x1 then (fX11_hung_L61 fu X0 rec8 x0 x1 (x2 + (1 : Int32)) x3) else (fX11_hung_L61 fu X0 rec8 x0 x1 x2 x3)) else none))) else none))) else none)))))) else none)
def fX11_hung_L8 (fu : Nat) (X0 : Mem)  : Nat → Nat → Int32 → Int32 → Int32 → Option (String ⊕ (Int32))
  | 0 => fun _ _ _ _ => none
  | n + 1 => fun x0 x1 x2 x3 => fX11_hung_L8b fu X0 (fX11_hung_L8 fu X0 n) x0 x1 x2 x3
def fX11_hung (fu : Nat) (X0 : Mem)  (x0 : Nat) (x1 : Int32) : Option (String ⊕ (Int32)) :=
  (bE (fX11_checkPupil X0 x1) fun v1 => (fX11_hung_L8 fu X0 fu x0 x1 (0 : Int32) (0 : Int32)))
def rmX12_init : Room := { frames := 1, cells := 31, slots := 7218, locals := 20 }
def fX12_init  (X : Mem) (x0 : Nat) : Option (Mem) :=
  (Option.bind (some (mZ X)) fun q7 => (Option.bind (some (nA X 0 30)) fun X7 => (if mK X7 x0 = some (12, 0) then (Option.bind (some (mZ (wR X7 1204 x0 (some q7)))) fun q15 => (Option.bind (some (nA (wR X7 1204 x0 (some q7)) 0 30)) fun X15 => (if mK X15 x0 = some (12, 0) then (Option.bind (some (mZ (wR X15 1205 x0 (some q15)))) fun q23 => (Option.bind (some (nA (wR X15 1205 x0 (some q15)) 0 30)) fun X23 => (if mK X23 x0 = some (12, 0) then (Option.bind (some (mZ (wR X23 1206 x0 (some q23)))) fun q31 => (Option.bind (some (nA (wR X23 1206 x0 (some q23)) 1 30)) fun X31 => (if mK X31 x0 = some (12, 0) then (Option.bind (some (mZ (wR X31 1207 x0 (some q31)))) fun q39 => (Option.bind (some (nA (wR X31 1207 x0 (some q31)) 0 30)) fun X39 => (if mK X39 x0 = some (12, 0) then (Option.bind (some (mZ (wR X39 1209 x0 (some q39)))) fun q47 => (Option.bind (some (nA (wR X39 1209 x0 (some q39)) 0 30)) fun X47 => (if mK X47 x0 = some (12, 0) then (Option.bind (some (mZ (wR X47 1210 x0 (some q47)))) fun q56 => (Option.bind (some (nA (wR X47 1210 x0 (some q47)) 0 900)) fun X56 => (if mK X56 x0 = some (12, 0) then (Option.bind (some (mZ (wR X56 1211 x0 (some q56)))) fun q65 => (Option.bind (some (nA (wR X56 1211 x0 (some q56)) 0 900)) fun X65 => (if mK X65 x0 = some (12, 0) then (Option.bind (some (mZ (wR X65 1212 x0 (some q65)))) fun q74 => (Option.bind (some (nA (wR X65 1212 x0 (some q65)) 0 900)) fun X74 => (if mK X74 x0 = some (12, 0) then (Option.bind (some (mZ (wR X74 1213 x0 (some q74)))) fun q83 => (Option.bind (some (nA (wR X74 1213 x0 (some q74)) 1 900)) fun X83 => (if mK X83 x0 = some (12, 0) then (Option.bind (some (mZ (wR X83 1214 x0 (some q83)))) fun q91 => (Option.bind (some (nA (wR X83 1214 x0 (some q83)) 0 30)) fun X91 => (if mK X91 x0 = some (12, 0) then (Option.bind (some (mZ (wR X91 1215 x0 (some q91)))) fun q99 => (Option.bind (some (nA (wR X91 1215 x0 (some q91)) 0 30)) fun X99 => (if mK X99 x0 = some (12, 0) then (Option.bind (some (mZ (wR X99 1216 x0 (some q99)))) fun q107 => (Option.bind (some (nA (wR X99 1216 x0 (some q99)) 0 30)) fun X107 => (if mK X107 x0 = some (12, 0) then (Option.bind (some (mZ (wR X107 1217 x0 (some q107)))) fun q116 => (Option.bind (some (nA (wR X107 1217 x0 (some q107)) 0 480)) fun X116 => (if mK X116 x0 = some (12, 0) then (Option.bind (some (mZ (wR X116 1218 x0 (some q116)))) fun q125 => (Option.bind (some (nA (wR X116 1218 x0 (some q116)) 0 480)) fun X125 => (if mK X125 x0 = some (12, 0) then (Option.bind (some (mZ (wR X125 1219 x0 (some q125)))) fun q132 => (Option.bind (some (nA (wR X125 1219 x0 (some q125)) 0 4)) fun X132 => (if mK X132 x0 = some (12, 0) then (Option.bind (some (mZ (wR X132 1220 x0 (some q132)))) fun q141 => (Option.bind (some (nA (wR X132 1220 x0 (some q132)) 0 300)) fun X141 => (if mK X141 x0 = some (12, 0) then (Option.bind (some (mZ (wR X141 1230 x0 (some q141)))) fun q150 => (Option.bind (some (nA (wR X141 1230 x0 (some q141)) 0 300)) fun X150 => (if mK X150 x0 = some (12, 0) then (Option.bind (some (mZ (wR X150 1231 x0 (some q150)))) fun q159 => (Option.bind (some (nA (wR X150 1231 x0 (some q150)) 0 601)) fun X159 => (if mK X159 x0 = some (12, 0) then (Option.bind (some (mZ (wR X159 1232 x0 (some q159)))) fun q167 => (Option.bind (some (nA (wR X159 1232 x0 (some q159)) 0 60)) fun X167 => (if mK X167 x0 = some (12, 0) then (Option.bind (some (mZ (wR X167 1233 x0 (some q167)))) fun q174 => (Option.bind (some (nA (wR X167 1233 x0 (some q167)) 0 4)) fun X174 => (if mK X174 x0 = some (12, 0) then (Option.bind (some (mZ (wR X174 1234 x0 (some q174)))) fun q181 => (Option.bind (some (nA (wR X174 1234 x0 (some q174)) 0 4)) fun X181 => (if mK X181 x0 = some (12, 0) then (Option.bind (some (mZ (wR X181 1235 x0 (some q181)))) fun q190 => (Option.bind (some (nA (wR X181 1235 x0 (some q181)) 0 961)) fun X190 => (if mK X190 x0 = some (12, 0) then (Option.bind (some (mZ (wR X190 1236 x0 (some q190)))) fun q198 => (Option.bind (some (nA (wR X190 1236 x0 (some q190)) 0 6)) fun X198 => (if mK X198 x0 = some (12, 0) then (Option.bind (some (mZ (wR X198 1238 x0 (some q198)))) fun q206 => (Option.bind (some (nA (wR X198 1238 x0 (some q198)) 0 6)) fun X206 => (if mK X206 x0 = some (12, 0) then (Option.bind (some (mZ (wR X206 1239 x0 (some q206)))) fun q214 => (Option.bind (some (nA (wR X206 1239 x0 (some q206)) 0 6)) fun X214 => (if mK X214 x0 = some (12, 0) then (Option.bind (some (mZ (wR X214 1240 x0 (some q214)))) fun q222 => (Option.bind (some (nA (wR X214 1240 x0 (some q214)) 0 24)) fun X222 => (if mK X222 x0 = some (12, 0) then (Option.bind (some (mZ (wR X222 1242 x0 (some q222)))) fun q230 => (Option.bind (some (nA (wR X222 1242 x0 (some q222)) 0 24)) fun X230 => (if mK X230 x0 = some (12, 0) then (Option.bind (some (mZ (wR X230 1243 x0 (some q230)))) fun q238 => (Option.bind (some (nA (wR X230 1243 x0 (some q230)) 1 24)) fun X238 => (if mK X238 x0 = some (12, 0) then (Option.bind (some (mZ (wI (wI (wR X238 1244 x0 (some q238)) 1245 x0 (20 : Int32)) 1246 x0 (20 : Int32)))) fun q258 => (Option.bind (some (nA (wI (wI (wR X238 1244 x0 (some q238)) 1245 x0 (20 : Int32)) 1246 x0 (20 : Int32)) 2 40)) fun X258 => (if mK X258 x0 = some (12, 0) then (Option.bind (some (mZ (wR X258 1247 x0 (some q258)))) fun q266 => (Option.bind (some (nA (wR X258 1247 x0 (some q258)) 0 24)) fun X266 => (if mK X266 x0 = some (12, 0) then (some (wR X266 1248 x0 (some q266))) else none))) else none))) else none))) else none))) else none))) else none))) else none))) else none))) else none))) else none))) else none))) else none))) else none))) else none))) else none))) else none))) else none))) else none))) else none))) else none))) else none))) else none))) else none))) else none))) else none))) else none))) else none))) else none))) else none))) else none))) else none)))
def rmX12_thrown : Room := { frames := 0, cells := 0, slots := 0, locals := 0 }
def fX12_thrown (X0 : SM)   : Option (Int32) :=
  (some (sc X0 0))
def rmX12_holds : Room := { frames := 0, cells := 0, slots := 0, locals := 0 }
def fX12_holds  (X : SM) (x1 : Int32) : Option (Int32 × SM) :=
  (if x1 = 0 then (some ((1 : Int32), (uc X 0 x1))) else (some ((0 : Int32), (uc X 0 x1))))
def rmX12_isIn : Room := { frames := 0, cells := 0, slots := 0, locals := 0 }
def fX12_isIn (X0 : SM)  (x0 : Int32) (x1 : Int32) (x2 : Int32) : Option (Int32) :=
  (if x0 < x1 then (some (0 : Int32)) else (if x2 < x0 then (some (0 : Int32)) else (some (1 : Int32))))
def rmX12_isName : Room := { frames := 1, cells := 0, slots := 0, locals := 22 }
def fX12_isName (X0 : SM)  (x0 : Int32) : Option (Int32) :=
  (Option.bind (fX12_isIn X0 x0 (0 : Int32) (3 : Int32)) fun v3 => (if v3 = 0 ∨ v3 = 1 then (some v3) else none))
def rmX12_drafts : Room := { frames := 0, cells := 0, slots := 0, locals := 0 }
def fX12_drafts  (X : SM) (x1 : Int32) (x2 : Int32) (x3 : Int32) (x4 : Int32) : Option (Int32 × SM) :=
  (if inS 0 0 (sc X 1) = true then (if inS 0 1 (sc (ua X 0 (sc X 1).toNatClampNeg x1) 1) = true then (if inS 0 2 (sc (ua (ua X 0 (sc X 1).toNatClampNeg x1) 1 (sc (ua X 0 (sc X 1).toNatClampNeg x1) 1).toNatClampNeg x2) 1) = true then (if inS 1 3 (sc (ua (ua (ua X 0 (sc X 1).toNatClampNeg x1) 1 (sc (ua X 0 (sc X 1).toNatClampNeg x1) 1).toNatClampNeg x2) 2 (sc (ua (ua X 0 (sc X 1).toNatClampNeg x1) 1 (sc (ua X 0 (sc X 1).toNatClampNeg x1) 1).toNatClampNeg x2) 1).toNatClampNeg x3) 1) = true then (if x4 = 0 ∨ x4 = 1 then (some ((sc (uc (ua (ua (ua (ua X 0 (sc X 1).toNatClampNeg x1) 1 (sc (ua X 0 (sc X 1).toNatClampNeg x1) 1).toNatClampNeg x2) 2 (sc (ua (ua X 0 (sc X 1).toNatClampNeg x1) 1 (sc (ua X 0 (sc X 1).toNatClampNeg x1) 1).toNatClampNeg x2) 1).toNatClampNeg x3) 3 (sc (ua (ua (ua X 0 (sc X 1).toNatClampNeg x1) 1 (sc (ua X 0 (sc X 1).toNatClampNeg x1) 1).toNatClampNeg x2) 2 (sc (ua (ua X 0 (sc X 1).toNatClampNeg x1) 1 (sc (ua X 0 (sc X 1).toNatClampNeg x1) 1).toNatClampNeg x2) 1).toNatClampNeg x3) 1).toNatClampNeg x4) 1 ((sc (ua (ua (ua (ua X 0 (sc X 1).toNatClampNeg x1) 1 (sc (ua X 0 (sc X 1).toNatClampNeg x1) 1).toNatClampNeg x2) 2 (sc (ua (ua X 0 (sc X 1).toNatClampNeg x1) 1 (sc (ua X 0 (sc X 1).toNatClampNeg x1) 1).toNatClampNeg x2) 1).toNatClampNeg x3) 3 (sc (ua (ua (ua X 0 (sc X 1).toNatClampNeg x1) 1 (sc (ua X 0 (sc X 1).toNatClampNeg x1) 1).toNatClampNeg x2) 2 (sc (ua (ua X 0 (sc X 1).toNatClampNeg x1) 1 (sc (ua X 0 (sc X 1).toNatClampNeg x1) 1).toNatClampNeg x2) 1).toNatClampNeg x3) 1).toNatClampNeg x4) 1) + (1 : Int32))) 1), (uc (ua (ua (ua (ua X 0 (sc X 1).toNatClampNeg x1) 1 (sc (ua X 0 (sc X 1).toNatClampNeg x1) 1).toNatClampNeg x2) 2 (sc (ua (ua X 0 (sc X 1).toNatClampNeg x1) 1 (sc (ua X 0 (sc X 1).toNatClampNeg x1) 1).toNatClampNeg x2) 1).toNatClampNeg x3) 3 (sc (ua (ua (ua X 0 (sc X 1).toNatClampNeg x1) 1 (sc (ua X 0 (sc X 1).toNatClampNeg x1) 1).toNatClampNeg x2) 2 (sc (ua (ua X 0 (sc X 1).toNatClampNeg x1) 1 (sc (ua X 0 (sc X 1).toNatClampNeg x1) 1).toNatClampNeg x2) 1).toNatClampNeg x3) 1).toNatClampNeg x4) 1 ((sc (ua (ua (ua (ua X 0 (sc X 1).toNatClampNeg x1) 1 (sc (ua X 0 (sc X 1).toNatClampNeg x1) 1).toNatClampNeg x2) 2 (sc (ua (ua X 0 (sc X 1).toNatClampNeg x1) 1 (sc (ua X 0 (sc X 1).toNatClampNeg x1) 1).toNatClampNeg x2) 1).toNatClampNeg x3) 3 (sc (ua (ua (ua X 0 (sc X 1).toNatClampNeg x1) 1 (sc (ua X 0 (sc X 1).toNatClampNeg x1) 1).toNatClampNeg x2) 2 (sc (ua (ua X 0 (sc X 1).toNatClampNeg x1) 1 (sc (ua X 0 (sc X 1).toNatClampNeg x1) 1).toNatClampNeg x2) 1).toNatClampNeg x3) 1).toNatClampNeg x4) 1) + (1 : Int32))))) else none) else none) else none) else none) else none)
def rmX12_isValue : Room := { frames := 2, cells := 0, slots := 0, locals := 42 }
def fX12_isValue_L68  (X : SM) (s1 : Int32) : Option (Int32 × SM) :=
  (bW (fX12_holds X s1) fun v68 X68 => (if v68 = 0 ∨ v68 = 1 then (some (v68, X68)) else none))
def fX12_isValue_L54  (X : SM)  : Option (Int32 × SM) :=
  (if (sc X 1) = (30 : Int32) then (fX12_isValue_L68 X (3 : Int32)) else (fX12_isValue_L68 X (0 : Int32)))
def fX12_isValue_L23  (X : SM) (x2 : Int32) (x3 : Int32) (x4 : Int32) (s0 : Int32) : Option (Int32 × SM) :=
  (if s0 = 0 then (fX12_isValue_L68 X (1 : Int32)) else (if x3 = 0 then (Option.bind (fX12_isIn X x2 x4 (99 : Int32)) fun v44 => (if v44 = 0 then (fX12_isValue_L68 X (2 : Int32)) else (fX12_isValue_L54 X))) else (fX12_isValue_L54 X)))
def fX12_isValue_L22  (X : SM) (x2 : Int32) (x3 : Int32) (x4 : Int32) : Option (Int32 × SM) :=
  (fX12_isValue_L23 X x2 x3 x4 (0 : Int32))
def fX12_isValue_L18  (X : SM) (x2 : Int32) (x3 : Int32) (x4 : Int32) : Option (Int32 × SM) :=
  (fX12_isValue_L23 X x2 x3 x4 (1 : Int32))
def fX12_isValue  (X : SM) (x1 : Int32) (x2 : Int32) (x3 : Int32) (x4 : Int32) : Option (Int32 × SM) :=
  (Option.bind (fX12_isName X x1) fun v1 => (if v1 = 0 then (fX12_isValue_L22 X x2 x3 x4) else (if x3 = 0 then (fX12_isValue_L18 X x2 x3 x4) else (Option.bind (fX12_isName X x2) fun v12 => (if v12 = 0 then (fX12_isValue_L22 X x2 x3 x4) else (fX12_isValue_L18 X x2 x3 x4))))))
def rmX12_forward : Room := { frames := 3, cells := 0, slots := 0, locals := 67 }
def fX12_forward  (X : SM) (x1 : Int32) (x2 : Int32) : Option (Int32 × SM) :=
  (bW (fX12_isValue X (0 : Int32) x1 x2 (0 : Int32)) fun v5 X5 => (if v5 = 0 then (some ((0 : Int32), X5)) else (bW (fX12_drafts X5 (0 : Int32) (0 : Int32) x1 x2) fun v16 X16 => (some (v16, X16)))))
def rmX12_turn : Room := { frames := 3, cells := 0, slots := 0, locals := 67 }
def fX12_turn  (X : SM) (x1 : Int32) (x2 : Int32) : Option (Int32 × SM) :=
  (bW (fX12_isValue X (0 : Int32) x1 x2 (0 : Int32)) fun v5 X5 => (if v5 = 0 then (some ((0 : Int32), X5)) else (bW (fX12_drafts X5 (1 : Int32) (0 : Int32) x1 x2) fun v16 X16 => (some (v16, X16)))))
def rmX12_pen : Room := { frames := 1, cells := 0, slots := 0, locals := 24 }
def fX12_pen_L33  (X : SM) (s1 : Int32) (s2 : Int32) (s3 : Int32) : Option (Int32 × SM) :=
  (bW (fX12_drafts X s1 s2 s3 (0 : Int32)) fun v34 X34 => (some (v34, X34)))
def fX12_pen_L15  (X : SM) (x1 : Int32) (s1 : Int32) : Option (Int32 × SM) :=
  (bW (fX12_holds X s1) fun v15 X15 => (if v15 = 0 then (some ((0 : Int32), X15)) else (if x1 = 0 then (fX12_pen_L33 X15 (2 : Int32) (0 : Int32) (0 : Int32)) else (fX12_pen_L33 X15 (2 : Int32) (0 : Int32) (1 : Int32)))))
def fX12_pen  (X : SM) (x1 : Int32) : Option (Int32 × SM) :=
  (if (sc X 1) = (30 : Int32) then (fX12_pen_L15 X x1 (1 : Int32)) else (fX12_pen_L15 X x1 (0 : Int32)))
def rmX12_set : Room := { frames := 3, cells := 0, slots := 0, locals := 67 }
def fX12_set  (X : SM) (x1 : Int32) (x2 : Int32) (x3 : Int32) : Option (Int32 × SM) :=
  (bW (fX12_isValue X x1 x2 x3 (-99)) fun v6 X6 => (if v6 = 0 then (some ((0 : Int32), X6)) else (bW (fX12_drafts X6 (3 : Int32) x1 x2 x3) fun v17 X17 => (some (v17, X17)))))
def rmX12_add : Room := { frames := 3, cells := 0, slots := 0, locals := 67 }
def fX12_add  (X : SM) (x1 : Int32) (x2 : Int32) (x3 : Int32) : Option (Int32 × SM) :=
  (bW (fX12_isValue X x1 x2 x3 (-99)) fun v6 X6 => (if v6 = 0 then (some ((0 : Int32), X6)) else (bW (fX12_drafts X6 (4 : Int32) x1 x2 x3) fun v17 X17 => (some (v17, X17)))))
def rmX12_repeat : Room := { frames := 3, cells := 0, slots := 0, locals := 67 }
def fX12_repeat  (X : SM) (x1 : Int32) (x2 : Int32) : Option (Int32 × SM) :=
  (bW (fX12_isValue X (0 : Int32) x1 x2 (0 : Int32)) fun v5 X5 => (if v5 = 0 then (some ((0 : Int32), X5)) else (bW (fX12_drafts (uc X5 2 ((sc X5 2) + (1 : Int32))) (5 : Int32) (0 : Int32) x1 x2) fun v28 X28 => (some (v28, X28)))))
def rmX12_word : Room := { frames := 2, cells := 0, slots := 0, locals := 42 }
def fX12_word_L47  (X : SM) (x1 : Int32) (s1 : Int32) : Option (Int32 × SM) :=
  (bW (fX12_holds X s1) fun v47 X47 => (if v47 = 0 then (some ((0 : Int32), X47)) else (bW (fX12_drafts (uc (uc X47 2 ((sc X47 2) + (1 : Int32))) 3 ((sc (uc X47 2 ((sc X47 2) + (1 : Int32))) 3) ||| ((1 : Int32) <<< (x1 &&& 31)))) (6 : Int32) x1 (0 : Int32) (0 : Int32)) fun v83 X83 => (some (v83, X83)))))
def fX12_word_L42  (X : SM) (x1 : Int32) : Option (Int32 × SM) :=
  (fX12_word_L47 X x1 (2 : Int32))
def fX12_word  (X : SM) (x1 : Int32) : Option (Int32 × SM) :=
  (Option.bind (fX12_isName X x1) fun v1 => (if v1 = 0 then (fX12_word_L47 X x1 (1 : Int32)) else (if (sc X 1) = (30 : Int32) then (fX12_word_L42 X x1) else (if 0 < (sc X 2) then (fX12_word_L42 X x1) else (if (((sc X 3) >>> (x1 &&& 31)) &&& (1 : Int32)) = (1 : Int32) then (fX12_word_L42 X x1) else (fX12_word_L47 X x1 (0 : Int32)))))))
def rmX12_call : Room := { frames := 2, cells := 0, slots := 0, locals := 42 }
def fX12_call_L26  (X : SM) (x1 : Int32) (s1 : Int32) : Option (Int32 × SM) :=
  (bW (fX12_holds X s1) fun v26 X26 => (if v26 = 0 then (some ((0 : Int32), X26)) else (bW (fX12_drafts X26 (7 : Int32) x1 (0 : Int32) (0 : Int32)) fun v38 X38 => (some (v38, X38)))))
def fX12_call  (X : SM) (x1 : Int32) : Option (Int32 × SM) :=
  (Option.bind (fX12_isName X x1) fun v2 => (if v2 = 0 then (fX12_call_L26 X x1 (1 : Int32)) else (if (sc X 1) = (30 : Int32) then (fX12_call_L26 X x1 (2 : Int32)) else (fX12_call_L26 X x1 (0 : Int32)))))
def rmX12_end : Room := { frames := 1, cells := 0, slots := 0, locals := 24 }
def fX12_end_L22  (X : SM) (s1 : Int32) : Option (Int32 × SM) :=
  (bW (fX12_holds X s1) fun v22 X22 => (if v22 = 0 then (some ((0 : Int32), X22)) else (bW (fX12_drafts (uc X22 2 ((sc X22 2) - (1 : Int32))) (8 : Int32) (0 : Int32) (0 : Int32) (0 : Int32)) fun v46 X46 => (some ((sc X46 2), X46)))))
def fX12_end_L17  (X : SM)  : Option (Int32 × SM) :=
  (fX12_end_L22 X (1 : Int32))
def fX12_end  (X : SM)  : Option (Int32 × SM) :=
  (if (sc X 2) = 0 then (fX12_end_L17 X) else (if (sc X 1) = (30 : Int32) then (fX12_end_L17 X) else (fX12_end_L22 X (0 : Int32))))
def rmX12_wipes : Room := { frames := 0, cells := 0, slots := 0, locals := 0 }
def fX12_wipes  (X : SM)  : Option (Int32 × SM) :=
  (some ((sc X 1), (uc (uc (uc X 1 (0 : Int32)) 2 (0 : Int32)) 3 (0 : Int32))))
def rmX12_wipe : Room := { frames := 1, cells := 0, slots := 0, locals := 21 }
def fX12_wipe  (X : SM)  : Option (Int32 × SM) :=
  (bW (fX12_wipes (uc X 0 (0 : Int32))) fun v6 X6 => (some (v6, X6)))
def rmX12_begins : Room := { frames := 0, cells := 0, slots := 0, locals := 0 }
def fX12_begins_L22b (fu : Nat) (rec22 : SM → Int32 → Int32 → Option (SM)) (X : SM) (x1 : Int32) (x2 : Int32) : Option (SM) :=
  (if (16 : Int32) ≤ x2 then (some (uc (uc (uc (uc (uc (uc (uc (uc (uc X 21 (8 : Int32)) 22 (8 : Int32)) 23 (0 : Int32)) 24 (1 : Int32)) 25 (0 : Int32)) 26 (0 : Int32)) 27 (0 : Int32)) 28 (0 : Int32)) 29 (0 : Int32))) else (if inS 0 13 (((16 : Int32) * x1) + x2) = true then (if inS 0 14 (((16 : Int32) * x1) + x2) = true then (rec22 (ua (ua X 13 (((16 : Int32) * x1) + x2).toNatClampNeg (0 : Int32)) 14 (((16 : Int32) * x1) + x2).toNatClampNeg (0 : Int32)) x1 (x2 + (1 : Int32))) else none) else none))
def fX12_begins_L22 (fu : Nat)  : Nat → SM → Int32 → Int32 → Option (SM)
  | 0 => fun _ _ _ => none
  | n + 1 => fun X x1 x2 => fX12_begins_L22b fu (fX12_begins_L22 fu n) X x1 x2
def fX12_begins_L2b (fu : Nat) (rec2 : SM → Int32 → Int32 → Option (SM)) (X : SM) (x1 : Int32) (x2 : Int32) : Option (SM) :=
  (if (4 : Int32) ≤ x2 then (fX12_begins_L22 fu fu X x1 (0 : Int32)) else (if inS 0 15 x2 = true then (rec2 (ua X 15 x2.toNatClampNeg (0 : Int32)) x1 (x2 + (1 : Int32))) else none))
def fX12_begins_L2 (fu : Nat)  : Nat → SM → Int32 → Int32 → Option (SM)
  | 0 => fun _ _ _ => none
  | n + 1 => fun X x1 x2 => fX12_begins_L2b fu (fX12_begins_L2 fu n) X x1 x2
def fX12_begins (fu : Nat)  (X : SM) (x1 : Int32) : Option (SM) :=
  (fX12_begins_L2 fu fu X x1 (0 : Int32))
def rmX12_endOf : Room := { frames := 0, cells := 0, slots := 0, locals := 0 }
def fX12_endOf_L57 (fu : Nat) (X0 : SM) (rec5 : Int32 → Int32 → Int32 → Option (Int32)) (x1 : Int32) (x3 : Int32) (s0 : Int32) (s1 : Int32) : Option (Int32) :=
  (rec5 x1 x3 (s0 + s1))
def fX12_endOf_L41 (fu : Nat) (X0 : SM) (rec5 : Int32 → Int32 → Int32 → Option (Int32)) (x1 : Int32) (x3 : Int32) (s0 : Int32) : Option (Int32) :=
  (fX12_endOf_L57 fu X0 rec5 x1 x3 s0 (1 : Int32))
def fX12_endOf_L5b (fu : Nat) (X0 : SM) (rec5 : Int32 → Int32 → Int32 → Option (Int32)) (x1 : Int32) (x3 : Int32) (x4 : Int32) : Option (Int32) :=
  (if x4 ≤ 0 then (some x3) else (if inS 0 6 (((30 : Int32) * x1) + (x3 + (1 : Int32))) = true then (if (ar X0 6 (((30 : Int32) * x1) + (x3 + (1 : Int32))).toNatClampNeg) = (5 : Int32) then (fX12_endOf_L41 fu X0 rec5 x1 (x3 + (1 : Int32)) x4) else (if (ar X0 6 (((30 : Int32) * x1) + (x3 + (1 : Int32))).toNatClampNeg) = (6 : Int32) then (fX12_endOf_L41 fu X0 rec5 x1 (x3 + (1 : Int32)) x4) else (if (ar X0 6 (((30 : Int32) * x1) + (x3 + (1 : Int32))).toNatClampNeg) = (8 : Int32) then (fX12_endOf_L57 fu X0 rec5 x1 (x3 + (1 : Int32)) x4 (-1)) else (fX12_endOf_L57 fu X0 rec5 x1 (x3 + (1 : Int32)) x4 (0 : Int32))))) else none))
def fX12_endOf_L5 (fu : Nat) (X0 : SM)  : Nat → Int32 → Int32 → Int32 → Option (Int32)
  | 0 => fun _ _ _ => none
  | n + 1 => fun x1 x3 x4 => fX12_endOf_L5b fu X0 (fX12_endOf_L5 fu X0 n) x1 x3 x4
def fX12_endOf (fu : Nat) (X0 : SM)  (x1 : Int32) (x2 : Int32) : Option (Int32) :=
  (fX12_endOf_L5 fu X0 fu x1 x2 (1 : Int32))
def rmX12_ends : Room := { frames := 0, cells := 0, slots := 0, locals := 0 }
def fX12_ends_L133  (X : SM) (s1 : Int32) : Option (SM) :=
  (some (uc X 27 s1))
def fX12_ends_L99  (X : SM) (s1 : Int32) (s2 : Int32) : Option (SM) :=
  (if inS 0 17 (sc (uc X 29 (s1 - s2)) 28) = true then (if (ar (uc X 29 (s1 - s2)) 17 (sc (uc X 29 (s1 - s2)) 28).toNatClampNeg) = (-1) then (if inS 0 16 (sc (uc X 29 (s1 - s2)) 28) = true then (fX12_ends_L133 (uc X 29 (s1 - s2)) (ar (uc X 29 (s1 - s2)) 16 (sc (uc X 29 (s1 - s2)) 28).toNatClampNeg)) else none) else (fX12_ends_L133 (uc X 29 (s1 - s2)) (sc (uc X 29 (s1 - s2)) 27))) else none)
def fX12_ends_L32  (X : SM) (s1 : Int32) (s2 : Int32) (s3 : Int32) : Option (SM) :=
  (if inS 0 17 s1 = true then (if inS 0 17 ((sc (ua X 17 s1.toNatClampNeg (s2 - s3)) 28) - (1 : Int32)) = true then (if (ar (ua X 17 s1.toNatClampNeg (s2 - s3)) 17 ((sc (ua X 17 s1.toNatClampNeg (s2 - s3)) 28) - (1 : Int32)).toNatClampNeg) ≤ 0 then (if inS 0 17 (sc (uc (ua X 17 s1.toNatClampNeg (s2 - s3)) 28 ((sc (ua X 17 s1.toNatClampNeg (s2 - s3)) 28) - (1 : Int32))) 28) = true then (if (ar (uc (ua X 17 s1.toNatClampNeg (s2 - s3)) 28 ((sc (ua X 17 s1.toNatClampNeg (s2 - s3)) 28) - (1 : Int32))) 17 (sc (uc (ua X 17 s1.toNatClampNeg (s2 - s3)) 28 ((sc (ua X 17 s1.toNatClampNeg (s2 - s3)) 28) - (1 : Int32))) 28).toNatClampNeg) = (-1) then (fX12_ends_L99 (uc (ua X 17 s1.toNatClampNeg (s2 - s3)) 28 ((sc (ua X 17 s1.toNatClampNeg (s2 - s3)) 28) - (1 : Int32))) (sc (uc (ua X 17 s1.toNatClampNeg (s2 - s3)) 28 ((sc (ua X 17 s1.toNatClampNeg (s2 - s3)) 28) - (1 : Int32))) 29) (1 : Int32)) else (fX12_ends_L99 (uc (ua X 17 s1.toNatClampNeg (s2 - s3)) 28 ((sc (ua X 17 s1.toNatClampNeg (s2 - s3)) 28) - (1 : Int32))) (sc (uc (ua X 17 s1.toNatClampNeg (s2 - s3)) 28 ((sc (ua X 17 s1.toNatClampNeg (s2 - s3)) 28) - (1 : Int32))) 29) (0 : Int32))) else none) else (if inS 0 16 ((sc (ua X 17 s1.toNatClampNeg (s2 - s3)) 28) - (1 : Int32)) = true then (some (uc (ua X 17 s1.toNatClampNeg (s2 - s3)) 27 (ar (ua X 17 s1.toNatClampNeg (s2 - s3)) 16 ((sc (ua X 17 s1.toNatClampNeg (s2 - s3)) 28) - (1 : Int32)).toNatClampNeg))) else none)) else none) else none)
def fX12_ends  (X : SM)  : Option (SM) :=
  (if inS 0 17 ((sc X 28) - (1 : Int32)) = true then (if inS 0 17 ((sc X 28) - (1 : Int32)) = true then (if (ar X 17 ((sc X 28) - (1 : Int32)).toNatClampNeg) = (-1) then (fX12_ends_L32 X ((sc X 28) - (1 : Int32)) (ar X 17 ((sc X 28) - (1 : Int32)).toNatClampNeg) (0 : Int32)) else (fX12_ends_L32 X ((sc X 28) - (1 : Int32)) (ar X 17 ((sc X 28) - (1 : Int32)).toNatClampNeg) (1 : Int32))) else none) else none)
def rmX12_counts : Room := { frames := 0, cells := 0, slots := 0, locals := 0 }
def fX12_counts  (X : SM)  : Option (Int32 × SM) :=
  (if (sc X 25) = (600 : Int32) then (some ((0 : Int32), (uc X 26 (1 : Int32)))) else (if inS 0 18 ((sc (uc X 25 ((sc X 25) + (1 : Int32))) 25) - (1 : Int32)) = true then (if inS 0 18 (sc (uc X 25 ((sc X 25) + (1 : Int32))) 25) = true then (some ((1 : Int32), (ua (uc X 25 ((sc X 25) + (1 : Int32))) 18 (sc (uc X 25 ((sc X 25) + (1 : Int32))) 25).toNatClampNeg (ar (uc X 25 ((sc X 25) + (1 : Int32))) 18 ((sc (uc X 25 ((sc X 25) + (1 : Int32))) 25) - (1 : Int32)).toNatClampNeg)))) else none) else none))
def rmX12_isOn : Room := { frames := 1, cells := 0, slots := 0, locals := 22 }
def fX12_isOn (X0 : SM)  (x0 : Int32) (x1 : Int32) : Option (Int32) :=
  (Option.bind (fX12_isIn X0 x0 (0 : Int32) (15 : Int32)) fun v4 => (if v4 = 0 then (some (0 : Int32)) else (Option.bind (fX12_isIn X0 x1 (0 : Int32) (15 : Int32)) fun v14 => (if v14 = 0 then (some (0 : Int32)) else (some (1 : Int32))))))
def rmX12_draws : Room := { frames := 0, cells := 0, slots := 0, locals := 0 }
def fX12_draws_L138  (X : SM) (s1 : Int32) (s2 : Int32) (s3 : Int32) : Option (SM) :=
  (if inS 0 14 s1 = true then (if inS 0 18 (sc (ua X 14 s1.toNatClampNeg (s2 ||| s3)) 25) = true then (if inS 0 18 (sc (ua X 14 s1.toNatClampNeg (s2 ||| s3)) 25) = true then (some (ua (ua X 14 s1.toNatClampNeg (s2 ||| s3)) 18 (sc (ua X 14 s1.toNatClampNeg (s2 ||| s3)) 25).toNatClampNeg ((ar (ua X 14 s1.toNatClampNeg (s2 ||| s3)) 18 (sc (ua X 14 s1.toNatClampNeg (s2 ||| s3)) 25).toNatClampNeg) + (1 : Int32)))) else none) else none) else none)
def fX12_draws_L115  (X : SM) (x4 : Int32) (x6 : Int32) (x7 : Int32) (s1 : Int32) (s2 : Int32) (s3 : Int32) : Option (SM) :=
  (if inS 0 13 s1 = true then (if inS 0 14 x6 = true then (if x7 = 0 then (fX12_draws_L138 (ua X 13 s1.toNatClampNeg (s2 ||| s3)) x6 (ar (ua X 13 s1.toNatClampNeg (s2 ||| s3)) 14 x6.toNatClampNeg) ((1 : Int32) <<< (x4 &&& 31))) else (fX12_draws_L138 (ua X 13 s1.toNatClampNeg (s2 ||| s3)) x6 (ar (ua X 13 s1.toNatClampNeg (s2 ||| s3)) 14 x6.toNatClampNeg) (0 : Int32))) else none) else none)
def fX12_draws_L82  (X : SM) (x4 : Int32) (x6 : Int32) (x7 : Int32) (s0 : Int32) : Option (SM) :=
  (if ((s0 >>> (x4 &&& 31)) &&& (1 : Int32)) = 0 then (if inS 0 13 x6 = true then (if x7 = 0 then (fX12_draws_L115 X x4 x6 x7 x6 (ar X 13 x6.toNatClampNeg) (0 : Int32)) else (fX12_draws_L115 X x4 x6 x7 x6 (ar X 13 x6.toNatClampNeg) ((1 : Int32) <<< (x4 &&& 31)))) else none) else (some X))
def fX12_draws_L58  (X : SM) (x4 : Int32) (x6 : Int32) (s0 : Int32) : Option (SM) :=
  (if s0 = 0 then (if inS 0 14 x6 = true then (fX12_draws_L82 X x4 x6 s0 (ar X 14 x6.toNatClampNeg)) else none) else (if inS 0 13 x6 = true then (fX12_draws_L82 X x4 x6 s0 (ar X 13 x6.toNatClampNeg)) else none))
def fX12_draws_L34  (X : SM) (x1 : Int32) (x2 : Int32) (x4 : Int32) (s0 : Int32) : Option (SM) :=
  (if x2 = (sc X 21) then (fX12_draws_L58 X x4 (((16 : Int32) * x1) + s0) (0 : Int32)) else (fX12_draws_L58 X x4 (((16 : Int32) * x1) + s0) (1 : Int32)))
def fX12_draws_L16  (X : SM) (x1 : Int32) (x2 : Int32) (x3 : Int32) (s0 : Int32) : Option (SM) :=
  (if (sc X 22) ≤ x3 then (fX12_draws_L34 X x1 x2 s0 (sc X 22)) else (fX12_draws_L34 X x1 x2 s0 x3))
def fX12_draws  (X : SM) (x1 : Int32) (x2 : Int32) (x3 : Int32) : Option (SM) :=
  (if (sc X 21) ≤ x2 then (fX12_draws_L16 X x1 x2 x3 (sc X 21)) else (fX12_draws_L16 X x1 x2 x3 x2))
def rmX12_goes : Room := { frames := 2, cells := 0, slots := 0, locals := 43 }
def fX12_goes_L108  (X : SM) (x2 : Int32) (x3 : Int32) : Option (SM) :=
  (some (uc (uc X 21 x2) 22 x3))
def fX12_goes_L87  (X : SM) (x1 : Int32) (x2 : Int32) (x3 : Int32) : Option (SM) :=
  (bW (fX12_counts X) fun v88 X88 => (if v88 = 0 then (some X88) else (if (sc X88 24) = 0 then (fX12_goes_L108 X88 x2 x3) else (Option.bind (fX12_draws X88 x1 x2 x3) fun X105 => (fX12_goes_L108 X105 x2 x3)))))
def fX12_goes_L59  (X : SM) (x1 : Int32) (x2 : Int32) (s0 : Int32) (s1 : Int32) : Option (SM) :=
  (if (600 : Int32) ≤ (sc X 25) then (fX12_goes_L87 X x1 x2 (s0 + s1)) else (Option.bind (fX12_isOn X x2 (s0 + s1)) fun v73 => (if v73 = 0 then (some (uc X 26 (2 : Int32))) else (fX12_goes_L87 X x1 x2 (s0 + s1)))))
def fX12_goes_L29  (X : SM) (x1 : Int32) (s0 : Int32) (s1 : Int32) : Option (SM) :=
  (if (sc X 23) = 0 then (fX12_goes_L59 X x1 (s0 + s1) (sc X 22) (1 : Int32)) else (if (sc X 23) = (2 : Int32) then (fX12_goes_L59 X x1 (s0 + s1) (sc X 22) (-1)) else (fX12_goes_L59 X x1 (s0 + s1) (sc X 22) (0 : Int32))))
def fX12_goes  (X : SM) (x1 : Int32) : Option (SM) :=
  (if (sc X 23) = (1 : Int32) then (fX12_goes_L29 X x1 (sc X 21) (1 : Int32)) else (if (sc X 23) = (3 : Int32) then (fX12_goes_L29 X x1 (sc X 21) (-1)) else (fX12_goes_L29 X x1 (sc X 21) (0 : Int32))))
def rmX12_enters : Room := { frames := 0, cells := 0, slots := 0, locals := 0 }
def fX12_enters  (X : SM) (x1 : Int32) (x2 : Int32) : Option (SM) :=
  (if inS 0 16 (sc X 28) = true then (if inS 0 17 (sc (ua X 16 (sc X 28).toNatClampNeg x1) 28) = true then (some (uc (ua (ua X 16 (sc X 28).toNatClampNeg x1) 17 (sc (ua X 16 (sc X 28).toNatClampNeg x1) 28).toNatClampNeg x2) 28 ((sc (ua (ua X 16 (sc X 28).toNatClampNeg x1) 17 (sc (ua X 16 (sc X 28).toNatClampNeg x1) 28).toNatClampNeg x2) 28) + (1 : Int32)))) else none) else none)
def rmX12_blockOf : Room := { frames := 0, cells := 0, slots := 0, locals := 0 }
def fX12_blockOf_L55 (fu : Nat) (X0 : SM) (rec5 : Int32 → Int32 → Int32 → Int32 → Option (Int32)) (x1 : Int32) (x2 : Int32) (x4 : Int32) (s0 : Int32) : Option (Int32) :=
  (rec5 x1 x2 s0 (x4 + (1 : Int32)))
def fX12_blockOf_L54 (fu : Nat) (X0 : SM) (rec5 : Int32 → Int32 → Int32 → Int32 → Option (Int32)) (x1 : Int32) (x2 : Int32) (x3 : Int32) (x4 : Int32) : Option (Int32) :=
  (fX12_blockOf_L55 fu X0 rec5 x1 x2 x4 x3)
def fX12_blockOf_L5b (fu : Nat) (X0 : SM) (rec5 : Int32 → Int32 → Int32 → Int32 → Option (Int32)) (x1 : Int32) (x2 : Int32) (x3 : Int32) (x4 : Int32) : Option (Int32) :=
  (if inS 0 5 x1 = true then (if (ar X0 5 x1.toNatClampNeg) ≤ x4 then (some x3) else (if inS 0 6 (((30 : Int32) * x1) + x4) = true then (if (ar X0 6 (((30 : Int32) * x1) + x4).toNatClampNeg) = (6 : Int32) then (if inS 0 7 (((30 : Int32) * x1) + x4) = true then (if (ar X0 7 (((30 : Int32) * x1) + x4).toNatClampNeg) = x2 then (fX12_blockOf_L55 fu X0 rec5 x1 x2 x4 x4) else (fX12_blockOf_L54 fu X0 rec5 x1 x2 x3 x4)) else none) else (fX12_blockOf_L54 fu X0 rec5 x1 x2 x3 x4)) else none)) else none)
def fX12_blockOf_L5 (fu : Nat) (X0 : SM)  : Nat → Int32 → Int32 → Int32 → Int32 → Option (Int32)
  | 0 => fun _ _ _ _ => none
  | n + 1 => fun x1 x2 x3 x4 => fX12_blockOf_L5b fu X0 (fX12_blockOf_L5 fu X0 n) x1 x2 x3 x4
def fX12_blockOf (fu : Nat) (X0 : SM)  (x1 : Int32) (x2 : Int32) : Option (Int32) :=
  (fX12_blockOf_L5 fu X0 fu x1 x2 (-1) (0 : Int32))
def rmX12_callsWord : Room := { frames := 1, cells := 0, slots := 0, locals := 24 }
def fX12_callsWord_L31 (fu : Nat)  (X : SM) (x3 : Int32) (s1 : Int32) : Option (SM) :=
  (if (sc (uc X 26 s1) 26) = 0 then (Option.bind (fX12_enters (uc (uc X 26 s1) 29 ((sc (uc X 26 s1) 29) + (1 : Int32))) (sc (uc (uc X 26 s1) 29 ((sc (uc X 26 s1) 29) + (1 : Int32))) 27) (-1)) fun X57 => (some (uc X57 27 x3))) else (some (uc X 26 s1)))
def fX12_callsWord (fu : Nat)  (X : SM) (x1 : Int32) (x2 : Int32) : Option (SM) :=
  (Option.bind (fX12_blockOf fu X x1 x2) fun v3 => (if v3 = (-1) then (fX12_callsWord_L31 fu X v3 (5 : Int32)) else (if (sc X 29) = (8 : Int32) then (fX12_callsWord_L31 fu X v3 (4 : Int32)) else (fX12_callsWord_L31 fu X v3 (0 : Int32)))))
def rmX12_does : Room := { frames := 3, cells := 0, slots := 0, locals := 66 }
def fX12_does_L227 (fu : Nat)  (X : SM) (s1 : Int32) (s2 : Int32) : Option (SM) :=
  (if inS 0 15 s1 = true then (some (ua X 15 s1.toNatClampNeg s2)) else none)
def fX12_does_L191 (fu : Nat)  (X : SM) (x2 : Int32) (x5 : Int32) (s1 : Int32) : Option (SM) :=
  (if inS 0 7 x2 = true then (if (sc (uc X 26 s1) 26) = 0 then (fX12_does_L227 fu (uc X 26 s1) (ar (uc X 26 s1) 7 x2.toNatClampNeg) x5) else (if inS 0 7 x2 = true then (if inS 0 15 (ar (uc X 26 s1) 7 x2.toNatClampNeg) = true then (fX12_does_L227 fu (uc X 26 s1) (ar (uc X 26 s1) 7 x2.toNatClampNeg) (ar (uc X 26 s1) 15 (ar (uc X 26 s1) 7 x2.toNatClampNeg).toNatClampNeg)) else none) else none)) else none)
def fX12_does_L169 (fu : Nat)  (X : SM) (x2 : Int32) (s0 : Int32) : Option (SM) :=
  (Option.bind (fX12_isIn X s0 (-999) (999 : Int32)) fun v180 => (if v180 = 0 then (fX12_does_L191 fu X x2 s0 (3 : Int32)) else (fX12_does_L191 fu X x2 s0 (0 : Int32))))
def fX12_does_L146 (fu : Nat)  (X : SM) (x2 : Int32) (x3 : Int32) (x4 : Int32) : Option (SM) :=
  (if x4 = (3 : Int32) then (fX12_does_L169 fu X x2 x3) else (if inS 0 7 x2 = true then (if inS 0 15 (ar X 7 x2.toNatClampNeg) = true then (fX12_does_L169 fu X x2 ((ar X 15 (ar X 7 x2.toNatClampNeg).toNatClampNeg) + x3)) else none) else none))
def fX12_does_L257 (fu : Nat)  (X : SM) (x1 : Int32) (x2 : Int32) (x3 : Int32) (x4 : Int32) : Option (SM) :=
  (if x4 = (5 : Int32) then (Option.bind (fX12_enters X (sc X 27) x3) fun X269 => (some X269)) else (if inS 0 7 x2 = true then (Option.bind (fX12_callsWord fu X x1 (ar X 7 x2.toNatClampNeg)) fun X283 => (some X283)) else none))
def fX12_does_L128 (fu : Nat)  (X : SM) (s1 : Int32) : Option (SM) :=
  (if s1 = 0 ∨ s1 = 1 then (some (uc X 24 s1)) else none)
def fX12_does_L59b (fu : Nat) (rec59 : SM → Int32 → Int32 → Int32 → Option (SM)) (X : SM) (x1 : Int32) (x3 : Int32) (x5 : Int32) : Option (SM) :=
  (if x3 ≤ x5 then (some X) else (if (sc X 26) = 0 then (Option.bind (fX12_goes X x1) fun X74 => (rec59 X74 x1 x3 (x5 + (1 : Int32)))) else (some X)))
def fX12_does_L59 (fu : Nat)  : Nat → SM → Int32 → Int32 → Int32 → Option (SM)
  | 0 => fun _ _ _ _ => none
  | n + 1 => fun X x1 x3 x5 => fX12_does_L59b fu (fX12_does_L59 fu n) X x1 x3 x5
def fX12_does_L53 (fu : Nat)  (X : SM) (x1 : Int32) (x3 : Int32) (s1 : Int32) : Option (SM) :=
  (fX12_does_L59 fu fu (uc X 26 s1) x1 x3 (0 : Int32))
def fX12_does_L29 (fu : Nat)  (X : SM) (x1 : Int32) (x2 : Int32) (s0 : Int32) : Option (SM) :=
  (if inS 0 6 x2 = true then (if (ar X 6 x2.toNatClampNeg) = 0 then (if 0 ≤ s0 then (fX12_does_L53 fu X x1 s0 (0 : Int32)) else (fX12_does_L53 fu X x1 s0 (3 : Int32))) else (if (ar X 6 x2.toNatClampNeg) = (1 : Int32) then (some (uc X 23 (((((sc X 23) + s0) - ((sc X 23) + s0) / (4 : Int32) * (4 : Int32)) + (4 : Int32)) - ((((sc X 23) + s0) - ((sc X 23) + s0) / (4 : Int32) * (4 : Int32)) + (4 : Int32)) / (4 : Int32) * (4 : Int32)))) else (if (ar X 6 x2.toNatClampNeg) = (2 : Int32) then (if s0 = (1 : Int32) then (fX12_does_L128 fu X (1 : Int32)) else (fX12_does_L128 fu X (0 : Int32))) else (if (ar X 6 x2.toNatClampNeg) = (3 : Int32) then (fX12_does_L146 fu X x2 s0 (ar X 6 x2.toNatClampNeg)) else (if (ar X 6 x2.toNatClampNeg) = (4 : Int32) then (fX12_does_L146 fu X x2 s0 (ar X 6 x2.toNatClampNeg)) else (if (ar X 6 x2.toNatClampNeg) = (5 : Int32) then (if 0 < s0 then (fX12_does_L257 fu X x1 x2 s0 (ar X 6 x2.toNatClampNeg)) else (Option.bind (fX12_endOf fu X x1 (sc X 27)) fun v248 => (some (uc X 27 v248)))) else (fX12_does_L257 fu X x1 x2 s0 (ar X 6 x2.toNatClampNeg)))))))) else none)
def fX12_does (fu : Nat)  (X : SM) (x1 : Int32) (x2 : Int32) : Option (SM) :=
  (if inS 1 9 x2 = true then (if (ar X 9 x2.toNatClampNeg) = 0 then (if inS 0 8 x2 = true then (fX12_does_L29 fu X x1 x2 (ar X 8 x2.toNatClampNeg)) else none) else (if inS 0 8 x2 = true then (if inS 0 15 (ar X 8 x2.toNatClampNeg) = true then (fX12_does_L29 fu X x1 x2 (ar X 15 (ar X 8 x2.toNatClampNeg).toNatClampNeg)) else none) else none)) else none)
def rmX12_runs : Room := { frames := 4, cells := 0, slots := 0, locals := 91 }
def fX12_runs_L93 (fu : Nat) (rec5 : SM → Int32 → Option (SM)) (X : SM) (x1 : Int32) : Option (SM) :=
  (rec5 (uc X 27 ((sc X 27) + (1 : Int32))) x1)
def fX12_runs_L5b (fu : Nat) (rec5 : SM → Int32 → Option (SM)) (X : SM) (x1 : Int32) : Option (SM) :=
  (if inS 0 5 x1 = true then (if (ar X 5 x1.toNatClampNeg) ≤ (sc X 27) then (some X) else (if (sc X 26) = 0 then (if inS 0 6 (((30 : Int32) * x1) + (sc X 27)) = true then (if (ar X 6 (((30 : Int32) * x1) + (sc X 27)).toNatClampNeg) = (6 : Int32) then (Option.bind (fX12_endOf fu X x1 (sc X 27)) fun v53 => (fX12_runs_L93 fu rec5 (uc X 27 v53) x1)) else (if inS 0 6 (((30 : Int32) * x1) + (sc X 27)) = true then (if (ar X 6 (((30 : Int32) * x1) + (sc X 27)).toNatClampNeg) = (8 : Int32) then (Option.bind (fX12_ends X) fun X74 => (fX12_runs_L93 fu rec5 X74 x1)) else (bW (fX12_counts X) fun v81 X81 => (if v81 = 0 then (fX12_runs_L93 fu rec5 X81 x1) else (Option.bind (fX12_does fu X81 x1 (((30 : Int32) * x1) + (sc X 27))) fun X90 => (fX12_runs_L93 fu rec5 X90 x1))))) else none)) else none) else (some X))) else none)
def fX12_runs_L5 (fu : Nat)  : Nat → SM → Int32 → Option (SM)
  | 0 => fun _ _ => none
  | n + 1 => fun X x1 => fX12_runs_L5b fu (fX12_runs_L5 fu n) X x1
def fX12_runs (fu : Nat)  (X : SM) (x1 : Int32) : Option (SM) :=
  (Option.bind (fX12_begins fu X x1) fun X2 => (fX12_runs_L5 fu fu X2 x1))
def rmX12_write : Room := { frames := 5, cells := 0, slots := 0, locals := 113 }
def fX12_write_L54b (fu : Nat) (rec54 : SM → Int32 → Int32 → Option (Int32 × SM)) (X : SM) (x1 : Int32) (x3 : Int32) : Option (Int32 × SM) :=
  (if (sc X 1) ≤ x3 then (if inS 0 4 (sc X 8) = true then (if inS 0 5 (sc (ua X 4 (sc X 8).toNatClampNeg x1) 8) = true then (bW (fX12_wipes (ua (ua X 4 (sc X 8).toNatClampNeg x1) 5 (sc (ua X 4 (sc X 8).toNatClampNeg x1) 8).toNatClampNeg (sc (ua X 4 (sc X 8).toNatClampNeg x1) 1))) fun v155 X155 => (Option.bind (fX12_runs fu (uc X155 8 ((sc X155 8) + (1 : Int32))) ((sc (uc X155 8 ((sc X155 8) + (1 : Int32))) 8) - (1 : Int32))) fun X176 => (if inS 0 10 ((sc X176 8) - (1 : Int32)) = true then (if inS 0 11 ((sc (ua X176 10 ((sc X176 8) - (1 : Int32)).toNatClampNeg (sc X176 26)) 8) - (1 : Int32)) = true then (if inS 0 18 (sc (ua (ua X176 10 ((sc X176 8) - (1 : Int32)).toNatClampNeg (sc X176 26)) 11 ((sc (ua X176 10 ((sc X176 8) - (1 : Int32)).toNatClampNeg (sc X176 26)) 8) - (1 : Int32)).toNatClampNeg (sc (ua X176 10 ((sc X176 8) - (1 : Int32)).toNatClampNeg (sc X176 26)) 25)) 25) = true then (if inS 0 12 ((sc (ua (ua X176 10 ((sc X176 8) - (1 : Int32)).toNatClampNeg (sc X176 26)) 11 ((sc (ua X176 10 ((sc X176 8) - (1 : Int32)).toNatClampNeg (sc X176 26)) 8) - (1 : Int32)).toNatClampNeg (sc (ua X176 10 ((sc X176 8) - (1 : Int32)).toNatClampNeg (sc X176 26)) 25)) 8) - (1 : Int32)) = true then (some (((sc (ua (ua (ua X176 10 ((sc X176 8) - (1 : Int32)).toNatClampNeg (sc X176 26)) 11 ((sc (ua X176 10 ((sc X176 8) - (1 : Int32)).toNatClampNeg (sc X176 26)) 8) - (1 : Int32)).toNatClampNeg (sc (ua X176 10 ((sc X176 8) - (1 : Int32)).toNatClampNeg (sc X176 26)) 25)) 12 ((sc (ua (ua X176 10 ((sc X176 8) - (1 : Int32)).toNatClampNeg (sc X176 26)) 11 ((sc (ua X176 10 ((sc X176 8) - (1 : Int32)).toNatClampNeg (sc X176 26)) 8) - (1 : Int32)).toNatClampNeg (sc (ua X176 10 ((sc X176 8) - (1 : Int32)).toNatClampNeg (sc X176 26)) 25)) 8) - (1 : Int32)).toNatClampNeg (ar (ua (ua X176 10 ((sc X176 8) - (1 : Int32)).toNatClampNeg (sc X176 26)) 11 ((sc (ua X176 10 ((sc X176 8) - (1 : Int32)).toNatClampNeg (sc X176 26)) 8) - (1 : Int32)).toNatClampNeg (sc (ua X176 10 ((sc X176 8) - (1 : Int32)).toNatClampNeg (sc X176 26)) 25)) 18 (sc (ua (ua X176 10 ((sc X176 8) - (1 : Int32)).toNatClampNeg (sc X176 26)) 11 ((sc (ua X176 10 ((sc X176 8) - (1 : Int32)).toNatClampNeg (sc X176 26)) 8) - (1 : Int32)).toNatClampNeg (sc (ua X176 10 ((sc X176 8) - (1 : Int32)).toNatClampNeg (sc X176 26)) 25)) 25).toNatClampNeg)) 8) - (1 : Int32)), (ua (ua (ua X176 10 ((sc X176 8) - (1 : Int32)).toNatClampNeg (sc X176 26)) 11 ((sc (ua X176 10 ((sc X176 8) - (1 : Int32)).toNatClampNeg (sc X176 26)) 8) - (1 : Int32)).toNatClampNeg (sc (ua X176 10 ((sc X176 8) - (1 : Int32)).toNatClampNeg (sc X176 26)) 25)) 12 ((sc (ua (ua X176 10 ((sc X176 8) - (1 : Int32)).toNatClampNeg (sc X176 26)) 11 ((sc (ua X176 10 ((sc X176 8) - (1 : Int32)).toNatClampNeg (sc X176 26)) 8) - (1 : Int32)).toNatClampNeg (sc (ua X176 10 ((sc X176 8) - (1 : Int32)).toNatClampNeg (sc X176 26)) 25)) 8) - (1 : Int32)).toNatClampNeg (ar (ua (ua X176 10 ((sc X176 8) - (1 : Int32)).toNatClampNeg (sc X176 26)) 11 ((sc (ua X176 10 ((sc X176 8) - (1 : Int32)).toNatClampNeg (sc X176 26)) 8) - (1 : Int32)).toNatClampNeg (sc (ua X176 10 ((sc X176 8) - (1 : Int32)).toNatClampNeg (sc X176 26)) 25)) 18 (sc (ua (ua X176 10 ((sc X176 8) - (1 : Int32)).toNatClampNeg (sc X176 26)) 11 ((sc (ua X176 10 ((sc X176 8) - (1 : Int32)).toNatClampNeg (sc X176 26)) 8) - (1 : Int32)).toNatClampNeg (sc (ua X176 10 ((sc X176 8) - (1 : Int32)).toNatClampNeg (sc X176 26)) 25)) 25).toNatClampNeg)))) else none) else none) else none) else none))) else none) else none) else (if inS 0 0 x3 = true then (if inS 0 6 (((30 : Int32) * (sc X 8)) + x3) = true then (if inS 0 1 x3 = true then (if inS 0 7 (((30 : Int32) * (sc X 8)) + x3) = true then (if inS 0 2 x3 = true then (if inS 0 8 (((30 : Int32) * (sc X 8)) + x3) = true then (if inS 1 3 x3 = true then (if inS 1 9 (((30 : Int32) * (sc X 8)) + x3) = true then (if (ar (ua (ua (ua X 6 (((30 : Int32) * (sc X 8)) + x3).toNatClampNeg (ar X 0 x3.toNatClampNeg)) 7 (((30 : Int32) * (sc X 8)) + x3).toNatClampNeg (ar (ua X 6 (((30 : Int32) * (sc X 8)) + x3).toNatClampNeg (ar X 0 x3.toNatClampNeg)) 1 x3.toNatClampNeg)) 8 (((30 : Int32) * (sc X 8)) + x3).toNatClampNeg (ar (ua (ua X 6 (((30 : Int32) * (sc X 8)) + x3).toNatClampNeg (ar X 0 x3.toNatClampNeg)) 7 (((30 : Int32) * (sc X 8)) + x3).toNatClampNeg (ar (ua X 6 (((30 : Int32) * (sc X 8)) + x3).toNatClampNeg (ar X 0 x3.toNatClampNeg)) 1 x3.toNatClampNeg)) 2 x3.toNatClampNeg)) 3 x3.toNatClampNeg) = 0 ∨ (ar (ua (ua (ua X 6 (((30 : Int32) * (sc X 8)) + x3).toNatClampNeg (ar X 0 x3.toNatClampNeg)) 7 (((30 : Int32) * (sc X 8)) + x3).toNatClampNeg (ar (ua X 6 (((30 : Int32) * (sc X 8)) + x3).toNatClampNeg (ar X 0 x3.toNatClampNeg)) 1 x3.toNatClampNeg)) 8 (((30 : Int32) * (sc X 8)) + x3).toNatClampNeg (ar (ua (ua X 6 (((30 : Int32) * (sc X 8)) + x3).toNatClampNeg (ar X 0 x3.toNatClampNeg)) 7 (((30 : Int32) * (sc X 8)) + x3).toNatClampNeg (ar (ua X 6 (((30 : Int32) * (sc X 8)) + x3).toNatClampNeg (ar X 0 x3.toNatClampNeg)) 1 x3.toNatClampNeg)) 2 x3.toNatClampNeg)) 3 x3.toNatClampNeg) = 1 then (rec54 (ua (ua (ua (ua X 6 (((30 : Int32) * (sc X 8)) + x3).toNatClampNeg (ar X 0 x3.toNatClampNeg)) 7 (((30 : Int32) * (sc X 8)) + x3).toNatClampNeg (ar (ua X 6 (((30 : Int32) * (sc X 8)) + x3).toNatClampNeg (ar X 0 x3.toNatClampNeg)) 1 x3.toNatClampNeg)) 8 (((30 : Int32) * (sc X 8)) + x3).toNatClampNeg (ar (ua (ua X 6 (((30 : Int32) * (sc X 8)) + x3).toNatClampNeg (ar X 0 x3.toNatClampNeg)) 7 (((30 : Int32) * (sc X 8)) + x3).toNatClampNeg (ar (ua X 6 (((30 : Int32) * (sc X 8)) + x3).toNatClampNeg (ar X 0 x3.toNatClampNeg)) 1 x3.toNatClampNeg)) 2 x3.toNatClampNeg)) 9 (((30 : Int32) * (sc X 8)) + x3).toNatClampNeg (ar (ua (ua (ua X 6 (((30 : Int32) * (sc X 8)) + x3).toNatClampNeg (ar X 0 x3.toNatClampNeg)) 7 (((30 : Int32) * (sc X 8)) + x3).toNatClampNeg (ar (ua X 6 (((30 : Int32) * (sc X 8)) + x3).toNatClampNeg (ar X 0 x3.toNatClampNeg)) 1 x3.toNatClampNeg)) 8 (((30 : Int32) * (sc X 8)) + x3).toNatClampNeg (ar (ua (ua X 6 (((30 : Int32) * (sc X 8)) + x3).toNatClampNeg (ar X 0 x3.toNatClampNeg)) 7 (((30 : Int32) * (sc X 8)) + x3).toNatClampNeg (ar (ua X 6 (((30 : Int32) * (sc X 8)) + x3).toNatClampNeg (ar X 0 x3.toNatClampNeg)) 1 x3.toNatClampNeg)) 2 x3.toNatClampNeg)) 3 x3.toNatClampNeg)) x1 (x3 + (1 : Int32))) else none) else none) else none) else none) else none) else none) else none) else none) else none))
def fX12_write_L54 (fu : Nat)  : Nat → SM → Int32 → Int32 → Option (Int32 × SM)
  | 0 => fun _ _ _ => none
  | n + 1 => fun X x1 x3 => fX12_write_L54b fu (fX12_write_L54 fu n) X x1 x3
def fX12_write_L44 (fu : Nat)  (X : SM) (x1 : Int32) (s1 : Int32) : Option (Int32 × SM) :=
  (bW (fX12_holds X s1) fun v44 X44 => (if v44 = 0 then (some ((0 : Int32), X44)) else (fX12_write_L54 fu fu X44 x1 (0 : Int32))))
def fX12_write_L39 (fu : Nat)  (X : SM) (x1 : Int32) : Option (Int32 × SM) :=
  (fX12_write_L44 fu X x1 (2 : Int32))
def fX12_write (fu : Nat)  (X : SM) (x1 : Int32) : Option (Int32 × SM) :=
  (Option.bind (fX12_isIn X x1 (0 : Int32) (5 : Int32)) fun v3 => (if v3 = 0 then (fX12_write_L44 fu X x1 (1 : Int32)) else (if (sc X 1) = 0 then (fX12_write_L39 fu X x1) else (if 0 < (sc X 2) then (fX12_write_L39 fu X x1) else (if (sc X 8) = (30 : Int32) then (fX12_write_L39 fu X x1) else (fX12_write_L44 fu X x1 (0 : Int32)))))))
def rmX12_isProgram : Room := { frames := 1, cells := 0, slots := 0, locals := 22 }
def fX12_isProgram (X0 : SM)  (x1 : Int32) : Option (Int32) :=
  (Option.bind (fX12_isIn X0 x1 (0 : Int32) ((sc X0 8) - (1 : Int32))) fun v8 => (if v8 = 0 ∨ v8 = 1 then (some v8) else none))
def rmX12_areLimits : Room := { frames := 1, cells := 0, slots := 0, locals := 22 }
def fX12_areLimits (X0 : SM)  (x0 : Int32) (x1 : Int32) : Option (Int32) :=
  (Option.bind (fX12_isIn X0 x0 (1 : Int32) (30 : Int32)) fun v4 => (if v4 = 0 then (some (0 : Int32)) else (Option.bind (fX12_isIn X0 x1 (0 : Int32) (600 : Int32)) fun v15 => (if v15 = 0 then (some (0 : Int32)) else (some (1 : Int32))))))
def rmX12_exercise : Room := { frames := 2, cells := 0, slots := 0, locals := 43 }
def fX12_exercise_L43  (X : SM) (x1 : Int32) (x2 : Int32) (x3 : Int32) (s1 : Int32) : Option (Int32 × SM) :=
  (bW (fX12_holds X s1) fun v43 X43 => (if v43 = 0 then (some ((0 : Int32), X43)) else (if inS 0 23 (sc X43 37) = true then (if inS 0 24 (sc (ua X43 23 (sc X43 37).toNatClampNeg x1) 37) = true then (if inS 0 25 (sc (ua (ua X43 23 (sc X43 37).toNatClampNeg x1) 24 (sc (ua X43 23 (sc X43 37).toNatClampNeg x1) 37).toNatClampNeg x2) 37) = true then (some (((sc (uc (ua (ua (ua X43 23 (sc X43 37).toNatClampNeg x1) 24 (sc (ua X43 23 (sc X43 37).toNatClampNeg x1) 37).toNatClampNeg x2) 25 (sc (ua (ua X43 23 (sc X43 37).toNatClampNeg x1) 24 (sc (ua X43 23 (sc X43 37).toNatClampNeg x1) 37).toNatClampNeg x2) 37).toNatClampNeg x3) 37 ((sc (ua (ua (ua X43 23 (sc X43 37).toNatClampNeg x1) 24 (sc (ua X43 23 (sc X43 37).toNatClampNeg x1) 37).toNatClampNeg x2) 25 (sc (ua (ua X43 23 (sc X43 37).toNatClampNeg x1) 24 (sc (ua X43 23 (sc X43 37).toNatClampNeg x1) 37).toNatClampNeg x2) 37).toNatClampNeg x3) 37) + (1 : Int32))) 37) - (1 : Int32)), (uc (ua (ua (ua X43 23 (sc X43 37).toNatClampNeg x1) 24 (sc (ua X43 23 (sc X43 37).toNatClampNeg x1) 37).toNatClampNeg x2) 25 (sc (ua (ua X43 23 (sc X43 37).toNatClampNeg x1) 24 (sc (ua X43 23 (sc X43 37).toNatClampNeg x1) 37).toNatClampNeg x2) 37).toNatClampNeg x3) 37 ((sc (ua (ua (ua X43 23 (sc X43 37).toNatClampNeg x1) 24 (sc (ua X43 23 (sc X43 37).toNatClampNeg x1) 37).toNatClampNeg x2) 25 (sc (ua (ua X43 23 (sc X43 37).toNatClampNeg x1) 24 (sc (ua X43 23 (sc X43 37).toNatClampNeg x1) 37).toNatClampNeg x2) 37).toNatClampNeg x3) 37) + (1 : Int32))))) else none) else none) else none)))
def fX12_exercise  (X : SM) (x1 : Int32) (x2 : Int32) (x3 : Int32) : Option (Int32 × SM) :=
  (Option.bind (fX12_isProgram X x1) fun v2 => (if v2 = 0 then (fX12_exercise_L43 X x1 x2 x3 (1 : Int32)) else (Option.bind (fX12_areLimits X x2 x3) fun v19 => (if v19 = 0 then (fX12_exercise_L43 X x1 x2 x3 (2 : Int32)) else (if (sc X 37) = (6 : Int32) then (fX12_exercise_L43 X x1 x2 x3 (3 : Int32)) else (fX12_exercise_L43 X x1 x2 x3 (0 : Int32)))))))
def rmX12_isExercise : Room := { frames := 1, cells := 0, slots := 0, locals := 22 }
def fX12_isExercise (X0 : SM)  (x1 : Int32) : Option (Int32) :=
  (Option.bind (fX12_isIn X0 x1 (0 : Int32) ((sc X0 37) - (1 : Int32))) fun v8 => (if v8 = 0 ∨ v8 = 1 then (some v8) else none))
def rmX12_leastOf : Room := { frames := 0, cells := 0, slots := 0, locals := 0 }
def fX12_leastOf_L113 (fu : Nat) (X0 : SM) (rec19 : Int32 → Int32 → Int32 → Int32 → Option (Int32)) (x1 : Int32) (x2 : Int32) (x4 : Int32) (s0 : Int32) : Option (Int32) :=
  (rec19 x1 x2 s0 (x4 + (1 : Int32)))
def fX12_leastOf_L112 (fu : Nat) (X0 : SM) (rec19 : Int32 → Int32 → Int32 → Int32 → Option (Int32)) (x1 : Int32) (x2 : Int32) (x3 : Int32) (x4 : Int32) : Option (Int32) :=
  (fX12_leastOf_L113 fu X0 rec19 x1 x2 x4 x3)
def fX12_leastOf_L94 (fu : Nat) (X0 : SM) (rec19 : Int32 → Int32 → Int32 → Int32 → Option (Int32)) (x1 : Int32) (x2 : Int32) (x3 : Int32) (x4 : Int32) (x5 : Int32) (s0 : Int32) : Option (Int32) :=
  (if x5 = 0 then (fX12_leastOf_L112 fu X0 rec19 x1 x2 x3 x4) else (if x3 ≤ s0 then (fX12_leastOf_L112 fu X0 rec19 x1 x2 x3 x4) else (fX12_leastOf_L113 fu X0 rec19 x1 x2 x4 s0)))
def fX12_leastOf_L75 (fu : Nat) (X0 : SM) (rec19 : Int32 → Int32 → Int32 → Int32 → Option (Int32)) (x1 : Int32) (x2 : Int32) (x3 : Int32) (x4 : Int32) (s0 : Int32) : Option (Int32) :=
  (if x2 = 0 then (fX12_leastOf_L94 fu X0 rec19 x1 x2 x3 x4 s0 (x4 / (16 : Int32))) else (fX12_leastOf_L94 fu X0 rec19 x1 x2 x3 x4 s0 (x4 - x4 / (16 : Int32) * (16 : Int32))))
def fX12_leastOf_L19b (fu : Nat) (X0 : SM) (rec19 : Int32 → Int32 → Int32 → Int32 → Option (Int32)) (x1 : Int32) (x2 : Int32) (x3 : Int32) (x4 : Int32) : Option (Int32) :=
  (if (256 : Int32) ≤ x4 then (some x3) else (if inS 0 13 (((16 : Int32) * x1) + (x4 / (16 : Int32))) = true then (if inS 0 14 (((16 : Int32) * x1) + (x4 / (16 : Int32))) = true then (if ((((ar X0 13 (((16 : Int32) * x1) + (x4 / (16 : Int32))).toNatClampNeg) ||| (ar X0 14 (((16 : Int32) * x1) + (x4 / (16 : Int32))).toNatClampNeg)) >>> ((x4 - x4 / (16 : Int32) * (16 : Int32)) &&& 31)) &&& (1 : Int32)) = (1 : Int32) then (fX12_leastOf_L75 fu X0 rec19 x1 x2 x3 x4 (1 : Int32)) else (fX12_leastOf_L75 fu X0 rec19 x1 x2 x3 x4 (0 : Int32))) else none) else none))
def fX12_leastOf_L19 (fu : Nat) (X0 : SM)  : Nat → Int32 → Int32 → Int32 → Int32 → Option (Int32)
  | 0 => fun _ _ _ _ => none
  | n + 1 => fun x1 x2 x3 x4 => fX12_leastOf_L19b fu X0 (fX12_leastOf_L19 fu X0 n) x1 x2 x3 x4
def fX12_leastOf_L15 (fu : Nat) (X0 : SM)  (x1 : Int32) (x2 : Int32) (s0 : Int32) : Option (Int32) :=
  (fX12_leastOf_L19 fu X0 fu x1 x2 s0 (0 : Int32))
def fX12_leastOf (fu : Nat) (X0 : SM)  (x1 : Int32) (x2 : Int32) : Option (Int32) :=
  (if inS 0 12 x1 = true then (if (ar X0 12 x1.toNatClampNeg) = 0 then (fX12_leastOf_L15 fu X0 x1 x2 (0 : Int32)) else (fX12_leastOf_L15 fu X0 x1 x2 (16 : Int32))) else none)
def rmX12_alike : Room := { frames := 1, cells := 0, slots := 0, locals := 26 }
def fX12_alike_L216 (fu : Nat) (X0 : SM) (rec54 : Int32 → Int32 → Int32 → Int32 → Int32 → Int32 → Int32 → Int32 → Option (Int32)) (x1 : Int32) (x2 : Int32) (x3 : Int32) (x4 : Int32) (x5 : Int32) (x6 : Int32) (x8 : Int32) (s0 : Int32) : Option (Int32) :=
  (rec54 x1 x2 x3 x4 x5 x6 s0 (x8 + (1 : Int32)))
def fX12_alike_L215 (fu : Nat) (X0 : SM) (rec54 : Int32 → Int32 → Int32 → Int32 → Int32 → Int32 → Int32 → Int32 → Option (Int32)) (x1 : Int32) (x2 : Int32) (x3 : Int32) (x4 : Int32) (x5 : Int32) (x6 : Int32) (x8 : Int32) : Option (Int32) :=
  (fX12_alike_L216 fu X0 rec54 x1 x2 x3 x4 x5 x6 x8 (0 : Int32))
def fX12_alike_L208 (fu : Nat) (X0 : SM) (rec54 : Int32 → Int32 → Int32 → Int32 → Int32 → Int32 → Int32 → Int32 → Option (Int32)) (x1 : Int32) (x2 : Int32) (x3 : Int32) (x4 : Int32) (x5 : Int32) (x6 : Int32) (x8 : Int32) (s0 : Int32) (s1 : Int32) : Option (Int32) :=
  (if s0 = s1 then (fX12_alike_L216 fu X0 rec54 x1 x2 x3 x4 x5 x6 x8 (1 : Int32)) else (fX12_alike_L215 fu X0 rec54 x1 x2 x3 x4 x5 x6 x8))
def fX12_alike_L179 (fu : Nat) (X0 : SM) (rec54 : Int32 → Int32 → Int32 → Int32 → Int32 → Int32 → Int32 → Int32 → Option (Int32)) (x1 : Int32) (x2 : Int32) (x3 : Int32) (x4 : Int32) (x5 : Int32) (x6 : Int32) (x8 : Int32) (x10 : Int32) (x12 : Int32) (s0 : Int32) (s1 : Int32) : Option (Int32) :=
  (if s0 = s1 then (if (16 : Int32) ≤ (x6 + x8) then (fX12_alike_L208 fu X0 rec54 x1 x2 x3 x4 x5 x6 x8 x12 (0 : Int32)) else (if inS 0 14 x10 = true then (fX12_alike_L208 fu X0 rec54 x1 x2 x3 x4 x5 x6 x8 x12 ((ar X0 14 x10.toNatClampNeg) >>> (x5 &&& 31))) else none)) else (fX12_alike_L215 fu X0 rec54 x1 x2 x3 x4 x5 x6 x8))
def fX12_alike_L146 (fu : Nat) (X0 : SM) (rec54 : Int32 → Int32 → Int32 → Int32 → Int32 → Int32 → Int32 → Int32 → Option (Int32)) (x1 : Int32) (x2 : Int32) (x3 : Int32) (x4 : Int32) (x5 : Int32) (x6 : Int32) (x7 : Int32) (x8 : Int32) (x10 : Int32) (x11 : Int32) (s0 : Int32) : Option (Int32) :=
  (if x7 = 0 then (fX12_alike_L215 fu X0 rec54 x1 x2 x3 x4 x5 x6 x8) else (if (16 : Int32) ≤ (x6 + x8) then (fX12_alike_L179 fu X0 rec54 x1 x2 x3 x4 x5 x6 x8 x10 s0 x11 (0 : Int32)) else (if inS 0 13 x10 = true then (fX12_alike_L179 fu X0 rec54 x1 x2 x3 x4 x5 x6 x8 x10 s0 x11 ((ar X0 13 x10.toNatClampNeg) >>> (x5 &&& 31))) else none)))
def fX12_alike_L121 (fu : Nat) (X0 : SM) (rec54 : Int32 → Int32 → Int32 → Int32 → Int32 → Int32 → Int32 → Int32 → Option (Int32)) (x1 : Int32) (x2 : Int32) (x3 : Int32) (x4 : Int32) (x5 : Int32) (x6 : Int32) (x7 : Int32) (x8 : Int32) (x9 : Int32) (x10 : Int32) (s0 : Int32) : Option (Int32) :=
  (if (16 : Int32) ≤ (x4 + x8) then (fX12_alike_L146 fu X0 rec54 x1 x2 x3 x4 x5 x6 x7 x8 x10 s0 (0 : Int32)) else (if inS 0 14 x9 = true then (fX12_alike_L146 fu X0 rec54 x1 x2 x3 x4 x5 x6 x7 x8 x10 s0 ((ar X0 14 x9.toNatClampNeg) >>> (x3 &&& 31))) else none))
def fX12_alike_L74 (fu : Nat) (X0 : SM) (rec54 : Int32 → Int32 → Int32 → Int32 → Int32 → Int32 → Int32 → Int32 → Option (Int32)) (x1 : Int32) (x2 : Int32) (x3 : Int32) (x4 : Int32) (x5 : Int32) (x6 : Int32) (x7 : Int32) (x8 : Int32) : Option (Int32) :=
  (if (16 : Int32) ≤ (x4 + x8) then (fX12_alike_L121 fu X0 rec54 x1 x2 x3 x4 x5 x6 x7 x8 ((((16 : Int32) * x1) + x4) + x8) ((((16 : Int32) * x2) + x6) + x8) (0 : Int32)) else (if inS 0 13 ((((16 : Int32) * x1) + x4) + x8) = true then (fX12_alike_L121 fu X0 rec54 x1 x2 x3 x4 x5 x6 x7 x8 ((((16 : Int32) * x1) + x4) + x8) ((((16 : Int32) * x2) + x6) + x8) ((ar X0 13 ((((16 : Int32) * x1) + x4) + x8).toNatClampNeg) >>> (x3 &&& 31))) else none))
def fX12_alike_L54b (fu : Nat) (X0 : SM) (rec54 : Int32 → Int32 → Int32 → Int32 → Int32 → Int32 → Int32 → Int32 → Option (Int32)) (x1 : Int32) (x2 : Int32) (x3 : Int32) (x4 : Int32) (x5 : Int32) (x6 : Int32) (x7 : Int32) (x8 : Int32) : Option (Int32) :=
  (if (x8 + x4) < (16 : Int32) then (fX12_alike_L74 fu X0 rec54 x1 x2 x3 x4 x5 x6 x7 x8) else (if (16 : Int32) ≤ (x8 + x6) then (if x7 = 0 ∨ x7 = 1 then (some x7) else none) else (fX12_alike_L74 fu X0 rec54 x1 x2 x3 x4 x5 x6 x7 x8)))
def fX12_alike_L54 (fu : Nat) (X0 : SM)  : Nat → Int32 → Int32 → Int32 → Int32 → Int32 → Int32 → Int32 → Int32 → Option (Int32)
  | 0 => fun _ _ _ _ _ _ _ _ => none
  | n + 1 => fun x1 x2 x3 x4 x5 x6 x7 x8 => fX12_alike_L54b fu X0 (fX12_alike_L54 fu X0 n) x1 x2 x3 x4 x5 x6 x7 x8
def fX12_alike (fu : Nat) (X0 : SM)  (x1 : Int32) (x2 : Int32) : Option (Int32) :=
  (if inS 0 12 x1 = true then (if inS 0 12 x2 = true then (if (ar X0 12 x1.toNatClampNeg) = (ar X0 12 x2.toNatClampNeg) then (Option.bind (fX12_leastOf fu X0 x1 (1 : Int32)) fun v20 => (Option.bind (fX12_leastOf fu X0 x1 (0 : Int32)) fun v27 => (Option.bind (fX12_leastOf fu X0 x2 (1 : Int32)) fun v35 => (Option.bind (fX12_leastOf fu X0 x2 (0 : Int32)) fun v43 => (fX12_alike_L54 fu X0 fu x1 x2 v20 v27 v35 v43 (1 : Int32) (0 : Int32)))))) else (some (0 : Int32))) else none) else none)
def rmX12_doesMeet : Room := { frames := 2, cells := 0, slots := 0, locals := 58 }
def fX12_doesMeet_L58 (fu : Nat) (X0 : SM)  (x2 : Int32) (x3 : Int32) (s0 : Int32) : Option (Int32) :=
  (if s0 = 0 then (some (0 : Int32)) else (if inS 0 23 x3 = true then (Option.bind (fX12_alike fu X0 x2 (ar X0 23 x3.toNatClampNeg)) fun v73 => (if v73 = 0 then (some (0 : Int32)) else (some (1 : Int32)))) else none))
def fX12_doesMeet_L57 (fu : Nat) (X0 : SM)  (x2 : Int32) (x3 : Int32) : Option (Int32) :=
  (fX12_doesMeet_L58 fu X0 x2 x3 (0 : Int32))
def fX12_doesMeet (fu : Nat) (X0 : SM)  (x1 : Int32) : Option (Int32) :=
  (if inS 0 26 x1 = true then (if inS 0 27 x1 = true then (if inS 0 10 (ar X0 26 x1.toNatClampNeg) = true then (if (ar X0 10 (ar X0 26 x1.toNatClampNeg).toNatClampNeg) = 0 then (if inS 0 5 (ar X0 26 x1.toNatClampNeg) = true then (if inS 0 24 (ar X0 27 x1.toNatClampNeg) = true then (if (ar X0 24 (ar X0 27 x1.toNatClampNeg).toNatClampNeg) < (ar X0 5 (ar X0 26 x1.toNatClampNeg).toNatClampNeg) then (fX12_doesMeet_L57 fu X0 (ar X0 26 x1.toNatClampNeg) (ar X0 27 x1.toNatClampNeg)) else (if inS 0 11 (ar X0 26 x1.toNatClampNeg) = true then (if inS 0 25 (ar X0 27 x1.toNatClampNeg) = true then (if (ar X0 25 (ar X0 27 x1.toNatClampNeg).toNatClampNeg) < (ar X0 11 (ar X0 26 x1.toNatClampNeg).toNatClampNeg) then (fX12_doesMeet_L57 fu X0 (ar X0 26 x1.toNatClampNeg) (ar X0 27 x1.toNatClampNeg)) else (fX12_doesMeet_L58 fu X0 (ar X0 26 x1.toNatClampNeg) (ar X0 27 x1.toNatClampNeg) (1 : Int32))) else none) else none)) else none) else none) else (fX12_doesMeet_L57 fu X0 (ar X0 26 x1.toNatClampNeg) (ar X0 27 x1.toNatClampNeg))) else none) else none) else none)
def rmX12_allow : Room := { frames := 3, cells := 0, slots := 0, locals := 82 }
def fX12_allow_L90 (fu : Nat) (rec54 : SM → Int32 → Int32 → Int32 → Option (Int32 × SM)) (X : SM) (x1 : Int32) (x5 : Int32) (s0 : Int32) (s1 : Int32) : Option (Int32 × SM) :=
  (rec54 X x1 (s0 + s1) (x5 + (1 : Int32)))
def fX12_allow_L89 (fu : Nat) (rec54 : SM → Int32 → Int32 → Int32 → Option (Int32 × SM)) (X : SM) (x1 : Int32) (x5 : Int32) (s0 : Int32) : Option (Int32 × SM) :=
  (fX12_allow_L90 fu rec54 X x1 x5 s0 (0 : Int32))
def fX12_allow_L54b (fu : Nat) (rec54 : SM → Int32 → Int32 → Int32 → Option (Int32 × SM)) (X : SM) (x1 : Int32) (x4 : Int32) (x5 : Int32) : Option (Int32 × SM) :=
  (if (sc X 41) ≤ x5 then (some (x4, X)) else (if inS 0 27 x5 = true then (if (ar X 27 x5.toNatClampNeg) = x1 then (Option.bind (fX12_doesMeet fu X x5) fun v79 => (if v79 = 0 then (fX12_allow_L89 fu rec54 X x1 x5 x4) else (fX12_allow_L90 fu rec54 X x1 x5 x4 (1 : Int32)))) else (fX12_allow_L89 fu rec54 X x1 x5 x4)) else none))
def fX12_allow_L54 (fu : Nat)  : Nat → SM → Int32 → Int32 → Int32 → Option (Int32 × SM)
  | 0 => fun _ _ _ _ => none
  | n + 1 => fun X x1 x4 x5 => fX12_allow_L54b fu (fX12_allow_L54 fu n) X x1 x4 x5
def fX12_allow_L26 (fu : Nat)  (X : SM) (x1 : Int32) (x2 : Int32) (x3 : Int32) (s1 : Int32) : Option (Int32 × SM) :=
  (bW (fX12_holds X s1) fun v26 X26 => (if v26 = 0 then (some ((0 : Int32), X26)) else (if inS 0 24 x1 = true then (if inS 0 25 x1 = true then (fX12_allow_L54 fu fu (ua (ua X26 24 x1.toNatClampNeg x2) 25 x1.toNatClampNeg x3) x1 (0 : Int32) (0 : Int32)) else none) else none)))
def fX12_allow (fu : Nat)  (X : SM) (x1 : Int32) (x2 : Int32) (x3 : Int32) : Option (Int32 × SM) :=
  (Option.bind (fX12_isExercise X x1) fun v3 => (if v3 = 0 then (fX12_allow_L26 fu X x1 x2 x3 (1 : Int32)) else (Option.bind (fX12_areLimits X x2 x3) fun v15 => (if v15 = 0 then (fX12_allow_L26 fu X x1 x2 x3 (2 : Int32)) else (fX12_allow_L26 fu X x1 x2 x3 (0 : Int32))))))
def rmX12_handIn : Room := { frames := 2, cells := 0, slots := 0, locals := 43 }
def fX12_handIn_L45  (X : SM) (x1 : Int32) (x2 : Int32) (s1 : Int32) : Option (Int32 × SM) :=
  (bW (fX12_holds X s1) fun v45 X45 => (if v45 = 0 then (some ((0 : Int32), X45)) else (if inS 0 26 (sc X45 41) = true then (if inS 0 27 (sc (ua X45 26 (sc X45 41).toNatClampNeg x1) 41) = true then (some (((sc (uc (ua (ua X45 26 (sc X45 41).toNatClampNeg x1) 27 (sc (ua X45 26 (sc X45 41).toNatClampNeg x1) 41).toNatClampNeg x2) 41 ((sc (ua (ua X45 26 (sc X45 41).toNatClampNeg x1) 27 (sc (ua X45 26 (sc X45 41).toNatClampNeg x1) 41).toNatClampNeg x2) 41) + (1 : Int32))) 41) - (1 : Int32)), (uc (ua (ua X45 26 (sc X45 41).toNatClampNeg x1) 27 (sc (ua X45 26 (sc X45 41).toNatClampNeg x1) 41).toNatClampNeg x2) 41 ((sc (ua (ua X45 26 (sc X45 41).toNatClampNeg x1) 27 (sc (ua X45 26 (sc X45 41).toNatClampNeg x1) 41).toNatClampNeg x2) 41) + (1 : Int32))))) else none) else none)))
def fX12_handIn_L21  (X : SM) (x1 : Int32) (x2 : Int32) (s0 : Int32) : Option (Int32 × SM) :=
  (if s0 = 0 then (fX12_handIn_L45 X x1 x2 (1 : Int32)) else (if (sc X 41) = (24 : Int32) then (fX12_handIn_L45 X x1 x2 (2 : Int32)) else (fX12_handIn_L45 X x1 x2 (0 : Int32))))
def fX12_handIn_L20  (X : SM) (x1 : Int32) (x2 : Int32) : Option (Int32 × SM) :=
  (fX12_handIn_L21 X x1 x2 (0 : Int32))
def fX12_handIn  (X : SM) (x1 : Int32) (x2 : Int32) : Option (Int32 × SM) :=
  (Option.bind (fX12_isProgram X x1) fun v2 => (if v2 = 0 then (fX12_handIn_L20 X x1 x2) else (Option.bind (fX12_isExercise X x2) fun v10 => (if v10 = 0 then (fX12_handIn_L20 X x1 x2) else (fX12_handIn_L21 X x1 x2 (1 : Int32))))))
def rmX12_isWork : Room := { frames := 1, cells := 0, slots := 0, locals := 22 }
def fX12_isWork (X0 : SM)  (x1 : Int32) : Option (Int32) :=
  (Option.bind (fX12_isIn X0 x1 (0 : Int32) ((sc X0 41) - (1 : Int32))) fun v8 => (if v8 = 0 ∨ v8 = 1 then (some v8) else none))
def rmX12_clear : Room := { frames := 2, cells := 0, slots := 0, locals := 43 }
def fX12_clear_L14  (X : SM) (x1 : Int32) (x2 : Int32) (s1 : Int32) : Option (Int32 × SM) :=
  (bW (fX12_holds X s1) fun v14 X14 => (if v14 = 0 then (some ((0 : Int32), X14)) else (if inS 1 28 x1 = true then (if inS 1 28 x1 = true then (if x2 = 0 ∨ x2 = 1 then (if (ar X14 28 x1.toNatClampNeg) = 0 ∨ (ar X14 28 x1.toNatClampNeg) = 1 then (some ((ar X14 28 x1.toNatClampNeg), (ua X14 28 x1.toNatClampNeg x2))) else none) else none) else none) else none)))
def fX12_clear  (X : SM) (x1 : Int32) (x2 : Int32) : Option (Int32 × SM) :=
  (Option.bind (fX12_isWork X x1) fun v3 => (if v3 = 0 then (fX12_clear_L14 X x1 x2 (1 : Int32)) else (fX12_clear_L14 X x1 x2 (0 : Int32))))
def rmX12_anew : Room := { frames := 0, cells := 0, slots := 0, locals := 0 }
def fX12_anew_L46 (fu : Nat)  (X : SM) (x0 : Nat) (x1 : Int32) (s0 : Nat) (s1 : Int32) (s2 : Int32) : Option (Int32 × SM) :=
  (if inS 0 s0 s1 = true then (if inS 0 x0 x1 = true then (some ((ar (ua X s0 s1.toNatClampNeg s2) x0 x1.toNatClampNeg), (ua X s0 s1.toNatClampNeg s2))) else none) else none)
def fX12_anew_L22 (fu : Nat) (rec4 : SM → Nat → Int32 → Int32 → Int32 → Option (Int32 × SM)) (X : SM) (x0 : Nat) (x1 : Int32) (x3 : Int32) (s0 : Int32) (s1 : Int32) : Option (Int32 × SM) :=
  (rec4 X x0 x1 (s0 + s1) (x3 + (1 : Int32)))
def fX12_anew_L4b (fu : Nat) (rec4 : SM → Nat → Int32 → Int32 → Int32 → Option (Int32 × SM)) (X : SM) (x0 : Nat) (x1 : Int32) (x2 : Int32) (x3 : Int32) : Option (Int32 × SM) :=
  (if (4 : Int32) ≤ x3 then (if inS 0 x0 x1 = true then (if (ar X x0 x1.toNatClampNeg) = (-1) then (fX12_anew_L46 fu X x0 x1 x0 x1 x2) else (if inS 0 x0 x1 = true then (fX12_anew_L46 fu X x0 x1 x0 x1 (ar X x0 x1.toNatClampNeg)) else none)) else none) else (if inS 0 x0 x3 = true then (if (ar X x0 x3.toNatClampNeg) = (-1) then (fX12_anew_L22 fu rec4 X x0 x1 x3 x2 (0 : Int32)) else (fX12_anew_L22 fu rec4 X x0 x1 x3 x2 (1 : Int32))) else none))
def fX12_anew_L4 (fu : Nat)  : Nat → SM → Nat → Int32 → Int32 → Int32 → Option (Int32 × SM)
  | 0 => fun _ _ _ _ _ => none
  | n + 1 => fun X x0 x1 x2 x3 => fX12_anew_L4b fu (fX12_anew_L4 fu n) X x0 x1 x2 x3
def fX12_anew (fu : Nat)  (X : SM) (x0 : Nat) (x1 : Int32) : Option (Int32 × SM) :=
  (fX12_anew_L4 fu fu X x0 x1 (0 : Int32) (0 : Int32))
def rmX12_lays : Room := { frames := 1, cells := 0, slots := 0, locals := 23 }
def fX12_lays_L160 (fu : Nat) (rec29 : SM → Int32 → Int32 → Int32 → Option (SM)) (X : SM) (x1 : Int32) (x2 : Int32) (x3 : Int32) (x5 : Int32) (x6 : Int32) (s0 : Int32) : Option (SM) :=
  (if inS 0 19 (((30 : Int32) * x2) + x3) = true then (rec29 (ua X 19 (((30 : Int32) * x2) + x3).toNatClampNeg ((((10000 : Int32) * x5) + ((1000 : Int32) * x6)) + s0)) x1 x2 (x3 + (1 : Int32))) else none)
def fX12_lays_L117 (fu : Nat) (rec29 : SM → Int32 → Int32 → Int32 → Option (SM)) (X : SM) (x1 : Int32) (x2 : Int32) (x3 : Int32) (x4 : Int32) (x5 : Int32) (s0 : Int32) : Option (SM) :=
  (if inS 1 9 x4 = true then (if (ar X 9 x4.toNatClampNeg) = 0 then (if inS 0 8 x4 = true then (fX12_lays_L160 fu rec29 X x1 x2 x3 x5 s0 ((100 : Int32) + (ar X 8 x4.toNatClampNeg))) else none) else (if inS 0 8 x4 = true then (bW (fX12_anew fu X 20 (ar X 8 x4.toNatClampNeg)) fun v143 X143 => (fX12_lays_L160 fu rec29 X143 x1 x2 x3 x5 s0 ((500 : Int32) + v143))) else none)) else none)
def fX12_lays_L68 (fu : Nat) (rec29 : SM → Int32 → Int32 → Int32 → Option (SM)) (X : SM) (x1 : Int32) (x2 : Int32) (x3 : Int32) (x4 : Int32) (x5 : Int32) : Option (SM) :=
  (if inS 0 7 x4 = true then (bW (fX12_anew fu X 20 (ar X 7 x4.toNatClampNeg)) fun v79 X79 => (fX12_lays_L117 fu rec29 X79 x1 x2 x3 x4 x5 v79)) else none)
def fX12_lays_L99 (fu : Nat) (rec29 : SM → Int32 → Int32 → Int32 → Option (SM)) (X : SM) (x1 : Int32) (x2 : Int32) (x3 : Int32) (x4 : Int32) (x5 : Int32) : Option (SM) :=
  (if inS 0 7 x4 = true then (bW (fX12_anew fu X 21 (ar X 7 x4.toNatClampNeg)) fun v110 X110 => (fX12_lays_L117 fu rec29 X110 x1 x2 x3 x4 x5 v110)) else none)
def fX12_lays_L29b (fu : Nat) (rec29 : SM → Int32 → Int32 → Int32 → Option (SM)) (X : SM) (x1 : Int32) (x2 : Int32) (x3 : Int32) : Option (SM) :=
  (if inS 0 5 x1 = true then (if (ar X 5 x1.toNatClampNeg) ≤ x3 then (some X) else (if inS 0 6 (((30 : Int32) * x1) + x3) = true then (if (ar X 6 (((30 : Int32) * x1) + x3).toNatClampNeg) = (3 : Int32) then (fX12_lays_L68 fu rec29 X x1 x2 x3 (((30 : Int32) * x1) + x3) (ar X 6 (((30 : Int32) * x1) + x3).toNatClampNeg)) else (if (ar X 6 (((30 : Int32) * x1) + x3).toNatClampNeg) = (4 : Int32) then (fX12_lays_L68 fu rec29 X x1 x2 x3 (((30 : Int32) * x1) + x3) (ar X 6 (((30 : Int32) * x1) + x3).toNatClampNeg)) else (if (ar X 6 (((30 : Int32) * x1) + x3).toNatClampNeg) = (6 : Int32) then (fX12_lays_L99 fu rec29 X x1 x2 x3 (((30 : Int32) * x1) + x3) (ar X 6 (((30 : Int32) * x1) + x3).toNatClampNeg)) else (if (ar X 6 (((30 : Int32) * x1) + x3).toNatClampNeg) = (7 : Int32) then (fX12_lays_L99 fu rec29 X x1 x2 x3 (((30 : Int32) * x1) + x3) (ar X 6 (((30 : Int32) * x1) + x3).toNatClampNeg)) else (fX12_lays_L117 fu rec29 X x1 x2 x3 (((30 : Int32) * x1) + x3) (ar X 6 (((30 : Int32) * x1) + x3).toNatClampNeg) (0 : Int32)))))) else none)) else none)
def fX12_lays_L29 (fu : Nat)  : Nat → SM → Int32 → Int32 → Int32 → Option (SM)
  | 0 => fun _ _ _ _ => none
  | n + 1 => fun X x1 x2 x3 => fX12_lays_L29b fu (fX12_lays_L29 fu n) X x1 x2 x3
def fX12_lays_L2b (fu : Nat) (rec2 : SM → Int32 → Int32 → Int32 → Option (SM)) (X : SM) (x1 : Int32) (x2 : Int32) (x3 : Int32) : Option (SM) :=
  (if (4 : Int32) ≤ x3 then (fX12_lays_L29 fu fu X x1 x2 (0 : Int32)) else (if inS 0 20 x3 = true then (if inS 0 21 x3 = true then (rec2 (ua (ua X 20 x3.toNatClampNeg (-1)) 21 x3.toNatClampNeg (-1)) x1 x2 (x3 + (1 : Int32))) else none) else none))
def fX12_lays_L2 (fu : Nat)  : Nat → SM → Int32 → Int32 → Int32 → Option (SM)
  | 0 => fun _ _ _ _ => none
  | n + 1 => fun X x1 x2 x3 => fX12_lays_L2b fu (fX12_lays_L2 fu n) X x1 x2 x3
def fX12_lays (fu : Nat)  (X : SM) (x1 : Int32) (x2 : Int32) : Option (SM) :=
  (fX12_lays_L2 fu fu X x1 x2 (0 : Int32))
def rmX12_oneForm : Room := { frames := 2, cells := 0, slots := 0, locals := 50 }
def fX12_oneForm_L76 (fu : Nat) (rec36 : SM → Int32 → Int32 → Int32 → Option (Int32 × SM)) (X : SM) (x1 : Int32) (x4 : Int32) (s0 : Int32) : Option (Int32 × SM) :=
  (rec36 X x1 s0 (x4 + (1 : Int32)))
def fX12_oneForm_L75 (fu : Nat) (rec36 : SM → Int32 → Int32 → Int32 → Option (Int32 × SM)) (X : SM) (x1 : Int32) (x4 : Int32) : Option (Int32 × SM) :=
  (fX12_oneForm_L76 fu rec36 X x1 x4 (0 : Int32))
def fX12_oneForm_L36b (fu : Nat) (rec36 : SM → Int32 → Int32 → Int32 → Option (Int32 × SM)) (X : SM) (x1 : Int32) (x3 : Int32) (x4 : Int32) : Option (Int32 × SM) :=
  (if inS 0 5 x1 = true then (if (ar X 5 x1.toNatClampNeg) ≤ x4 then (if x3 = 0 ∨ x3 = 1 then (some (x3, X)) else none) else (if x3 = 0 then (fX12_oneForm_L75 fu rec36 X x1 x4) else (if inS 0 19 x4 = true then (if inS 0 19 ((30 : Int32) + x4) = true then (if (ar X 19 x4.toNatClampNeg) = (ar X 19 ((30 : Int32) + x4).toNatClampNeg) then (fX12_oneForm_L76 fu rec36 X x1 x4 (1 : Int32)) else (fX12_oneForm_L75 fu rec36 X x1 x4)) else none) else none))) else none)
def fX12_oneForm_L36 (fu : Nat)  : Nat → SM → Int32 → Int32 → Int32 → Option (Int32 × SM)
  | 0 => fun _ _ _ _ => none
  | n + 1 => fun X x1 x3 x4 => fX12_oneForm_L36b fu (fX12_oneForm_L36 fu n) X x1 x3 x4
def fX12_oneForm_L32 (fu : Nat)  (X : SM) (x1 : Int32) (s0 : Int32) : Option (Int32 × SM) :=
  (fX12_oneForm_L36 fu fu X x1 s0 (0 : Int32))
def fX12_oneForm (fu : Nat)  (X : SM) (x1 : Int32) (x2 : Int32) : Option (Int32 × SM) :=
  (Option.bind (fX12_lays fu X x1 (0 : Int32)) fun X3 => (Option.bind (fX12_lays fu X3 x2 (1 : Int32)) fun X9 => (if inS 0 5 x1 = true then (if inS 0 5 x2 = true then (if (ar X9 5 x1.toNatClampNeg) = (ar X9 5 x2.toNatClampNeg) then (fX12_oneForm_L32 fu X9 x1 (1 : Int32)) else (fX12_oneForm_L32 fu X9 x1 (0 : Int32))) else none) else none)))
def rmX12_copied : Room := { frames := 3, cells := 0, slots := 0, locals := 74 }
def fX12_copied_L86 (fu : Nat) (rec6 : SM → Int32 → Int32 → Int32 → Option (Int32 × SM)) (X : SM) (x1 : Int32) (x3 : Int32) (s0 : Int32) : Option (Int32 × SM) :=
  (rec6 X x1 s0 (x3 + (-1)))
def fX12_copied_L85 (fu : Nat) (rec6 : SM → Int32 → Int32 → Int32 → Option (Int32 × SM)) (X : SM) (x1 : Int32) (x2 : Int32) (x3 : Int32) : Option (Int32 × SM) :=
  (fX12_copied_L86 fu rec6 X x1 x3 x2)
def fX12_copied_L55 (fu : Nat) (rec6 : SM → Int32 → Int32 → Int32 → Option (Int32 × SM)) (X : SM) (x1 : Int32) (x2 : Int32) (x3 : Int32) (s0 : Int32) : Option (Int32 × SM) :=
  (if s0 = 0 then (fX12_copied_L85 fu rec6 X x1 x2 x3) else (if inS 0 26 x3 = true then (if inS 0 26 x1 = true then (bW (fX12_oneForm fu X (ar X 26 x3.toNatClampNeg) (ar X 26 x1.toNatClampNeg)) fun v75 X75 => (if v75 = 0 then (fX12_copied_L85 fu rec6 X75 x1 x2 x3) else (fX12_copied_L86 fu rec6 X75 x1 x3 x3))) else none) else none))
def fX12_copied_L54 (fu : Nat) (rec6 : SM → Int32 → Int32 → Int32 → Option (Int32 × SM)) (X : SM) (x1 : Int32) (x2 : Int32) (x3 : Int32) : Option (Int32 × SM) :=
  (fX12_copied_L55 fu rec6 X x1 x2 x3 (0 : Int32))
def fX12_copied_L6b (fu : Nat) (rec6 : SM → Int32 → Int32 → Int32 → Option (Int32 × SM)) (X : SM) (x1 : Int32) (x2 : Int32) (x3 : Int32) : Option (Int32 × SM) :=
  (if x3 < 0 then (some (x2, X)) else (if inS 0 27 x3 = true then (if inS 0 27 x1 = true then (if (ar X 27 x3.toNatClampNeg) = (ar X 27 x1.toNatClampNeg) then (if inS 0 26 x3 = true then (if inS 0 4 (ar X 26 x3.toNatClampNeg) = true then (if inS 0 26 x1 = true then (if inS 0 4 (ar X 26 x1.toNatClampNeg) = true then (if (ar X 4 (ar X 26 x3.toNatClampNeg).toNatClampNeg) = (ar X 4 (ar X 26 x1.toNatClampNeg).toNatClampNeg) then (fX12_copied_L54 fu rec6 X x1 x2 x3) else (fX12_copied_L55 fu rec6 X x1 x2 x3 (1 : Int32))) else none) else none) else none) else none) else (fX12_copied_L54 fu rec6 X x1 x2 x3)) else none) else none))
def fX12_copied_L6 (fu : Nat)  : Nat → SM → Int32 → Int32 → Int32 → Option (Int32 × SM)
  | 0 => fun _ _ _ _ => none
  | n + 1 => fun X x1 x2 x3 => fX12_copied_L6b fu (fX12_copied_L6 fu n) X x1 x2 x3
def fX12_copied (fu : Nat)  (X : SM) (x1 : Int32) : Option (Int32 × SM) :=
  (fX12_copied_L6 fu fu X x1 (-1) (x1 - (1 : Int32)))
def rmX12_greatestOf : Room := { frames := 0, cells := 0, slots := 0, locals := 0 }
def fX12_greatestOf_L144 (fu : Nat) (X0 : SM) (rec5 : Int32 → Int32 → Int32 → Int32 → Option (Int32)) (x1 : Int32) (x2 : Int32) (x4 : Int32) (s0 : Int32) : Option (Int32) :=
  (rec5 x1 x2 s0 (x4 + (1 : Int32)))
def fX12_greatestOf_L143 (fu : Nat) (X0 : SM) (rec5 : Int32 → Int32 → Int32 → Int32 → Option (Int32)) (x1 : Int32) (x2 : Int32) (x3 : Int32) (x4 : Int32) : Option (Int32) :=
  (fX12_greatestOf_L144 fu X0 rec5 x1 x2 x4 x3)
def fX12_greatestOf_L132 (fu : Nat) (X0 : SM) (rec5 : Int32 → Int32 → Int32 → Int32 → Option (Int32)) (x1 : Int32) (x2 : Int32) (x3 : Int32) (x4 : Int32) (x7 : Int32) : Option (Int32) :=
  (if x7 ≤ x3 then (fX12_greatestOf_L143 fu X0 rec5 x1 x2 x3 x4) else (fX12_greatestOf_L144 fu X0 rec5 x1 x2 x4 x7))
def fX12_greatestOf_L120 (fu : Nat) (X0 : SM) (rec5 : Int32 → Int32 → Int32 → Int32 → Option (Int32)) (x1 : Int32) (x2 : Int32) (x3 : Int32) (x4 : Int32) (x5 : Int32) (x6 : Int32) (s0 : Int32) : Option (Int32) :=
  (if x5 = 0 then (if x6 = 0 then (fX12_greatestOf_L143 fu X0 rec5 x1 x2 x3 x4) else (fX12_greatestOf_L132 fu X0 rec5 x1 x2 x3 x4 s0)) else (fX12_greatestOf_L132 fu X0 rec5 x1 x2 x3 x4 s0))
def fX12_greatestOf_L119 (fu : Nat) (X0 : SM) (rec5 : Int32 → Int32 → Int32 → Int32 → Option (Int32)) (x1 : Int32) (x2 : Int32) (x3 : Int32) (x4 : Int32) (x5 : Int32) (x6 : Int32) (s0 : Int32) (s1 : Int32) : Option (Int32) :=
  (fX12_greatestOf_L120 fu X0 rec5 x1 x2 x3 x4 x5 x6 (s0 + s1))
def fX12_greatestOf_L100 (fu : Nat) (X0 : SM) (rec5 : Int32 → Int32 → Int32 → Int32 → Option (Int32)) (x1 : Int32) (x2 : Int32) (x3 : Int32) (x4 : Int32) (x5 : Int32) (x6 : Int32) (s0 : Int32) (s1 : Int32) : Option (Int32) :=
  (fX12_greatestOf_L120 fu X0 rec5 x1 x2 x3 x4 x5 x6 (s0 + s1))
def fX12_greatestOf_L79 (fu : Nat) (X0 : SM) (rec5 : Int32 → Int32 → Int32 → Int32 → Option (Int32)) (x1 : Int32) (x2 : Int32) (x3 : Int32) (x4 : Int32) (x5 : Int32) (s0 : Int32) : Option (Int32) :=
  (if x2 = 0 then (if s0 = 0 then (fX12_greatestOf_L119 fu X0 rec5 x1 x2 x3 x4 x5 s0 (x4 / (16 : Int32)) (0 : Int32)) else (fX12_greatestOf_L119 fu X0 rec5 x1 x2 x3 x4 x5 s0 (x4 / (16 : Int32)) (1 : Int32))) else (if x5 = 0 then (fX12_greatestOf_L100 fu X0 rec5 x1 x2 x3 x4 x5 s0 (x4 - x4 / (16 : Int32) * (16 : Int32)) (0 : Int32)) else (fX12_greatestOf_L100 fu X0 rec5 x1 x2 x3 x4 x5 s0 (x4 - x4 / (16 : Int32) * (16 : Int32)) (1 : Int32))))
def fX12_greatestOf_L45 (fu : Nat) (X0 : SM) (rec5 : Int32 → Int32 → Int32 → Int32 → Option (Int32)) (x1 : Int32) (x2 : Int32) (x3 : Int32) (x4 : Int32) (s0 : Int32) : Option (Int32) :=
  (if inS 0 14 (((16 : Int32) * x1) + (x4 / (16 : Int32))) = true then (if (((ar X0 14 (((16 : Int32) * x1) + (x4 / (16 : Int32))).toNatClampNeg) >>> ((x4 - x4 / (16 : Int32) * (16 : Int32)) &&& 31)) &&& (1 : Int32)) = (1 : Int32) then (fX12_greatestOf_L79 fu X0 rec5 x1 x2 x3 x4 s0 (1 : Int32)) else (fX12_greatestOf_L79 fu X0 rec5 x1 x2 x3 x4 s0 (0 : Int32))) else none)
def fX12_greatestOf_L5b (fu : Nat) (X0 : SM) (rec5 : Int32 → Int32 → Int32 → Int32 → Option (Int32)) (x1 : Int32) (x2 : Int32) (x3 : Int32) (x4 : Int32) : Option (Int32) :=
  (if (256 : Int32) ≤ x4 then (some x3) else (if inS 0 13 (((16 : Int32) * x1) + (x4 / (16 : Int32))) = true then (if (((ar X0 13 (((16 : Int32) * x1) + (x4 / (16 : Int32))).toNatClampNeg) >>> ((x4 - x4 / (16 : Int32) * (16 : Int32)) &&& 31)) &&& (1 : Int32)) = (1 : Int32) then (fX12_greatestOf_L45 fu X0 rec5 x1 x2 x3 x4 (1 : Int32)) else (fX12_greatestOf_L45 fu X0 rec5 x1 x2 x3 x4 (0 : Int32))) else none))
def fX12_greatestOf_L5 (fu : Nat) (X0 : SM)  : Nat → Int32 → Int32 → Int32 → Int32 → Option (Int32)
  | 0 => fun _ _ _ _ => none
  | n + 1 => fun x1 x2 x3 x4 => fX12_greatestOf_L5b fu X0 (fX12_greatestOf_L5 fu X0 n) x1 x2 x3 x4
def fX12_greatestOf (fu : Nat) (X0 : SM)  (x1 : Int32) (x2 : Int32) : Option (Int32) :=
  (fX12_greatestOf_L5 fu X0 fu x1 x2 (0 : Int32) (0 : Int32))
def rmX12_isFree : Room := { frames := 0, cells := 0, slots := 0, locals := 0 }
def fX12_isFree_L74 (fu : Nat) (X0 : SM) (rec40 : Int32 → Int32 → Int64 → Int32 → Int32 → Option (Int32)) (x2 : Int32) (x4 : Int32) (x5 : Int64) (x8 : Int32) (s0 : Int32) : Option (Int32) :=
  (rec40 x2 x4 x5 s0 (x8 + (1 : Int32)))
def fX12_isFree_L40b (fu : Nat) (X0 : SM) (rec40 : Int32 → Int32 → Int64 → Int32 → Int32 → Option (Int32)) (x2 : Int32) (x4 : Int32) (x5 : Int64) (x7 : Int32) (x8 : Int32) : Option (Int32) :=
  (if (x2 + x4) ≤ x8 then (if x7 = 0 ∨ x7 = 1 then (some x7) else none) else (if x7 = 0 then (if x7 = 0 ∨ x7 = 1 then (some x7) else none) else (if inS 2 29 x8 = true then (if (lg_cmp ((al X0 29 x8.toNatClampNeg) &&& x5) (0 : Int64)) = 0 then (fX12_isFree_L74 fu X0 rec40 x2 x4 x5 x8 (1 : Int32)) else (fX12_isFree_L74 fu X0 rec40 x2 x4 x5 x8 (0 : Int32))) else none)))
def fX12_isFree_L40 (fu : Nat) (X0 : SM)  : Nat → Int32 → Int32 → Int64 → Int32 → Int32 → Option (Int32)
  | 0 => fun _ _ _ _ _ => none
  | n + 1 => fun x2 x4 x5 x7 x8 => fX12_isFree_L40b fu X0 (fX12_isFree_L40 fu X0 n) x2 x4 x5 x7 x8
def fX12_isFree_L35 (fu : Nat) (X0 : SM)  (x2 : Int32) (x4 : Int32) (x5 : Int64) (s0 : Int32) : Option (Int32) :=
  (fX12_isFree_L40 fu X0 fu x2 x4 x5 s0 x2)
def fX12_isFree_L34 (fu : Nat) (X0 : SM)  (x2 : Int32) (x4 : Int32) (x5 : Int64) : Option (Int32) :=
  (fX12_isFree_L35 fu X0 x2 x4 x5 (0 : Int32))
def fX12_isFree (fu : Nat) (X0 : SM)  (x1 : Int32) (x2 : Int32) (x3 : Int32) (x4 : Int32) : Option (Int32) :=
  (if (sc X0 45) < (x1 + x3) then (fX12_isFree_L34 fu X0 x2 x4 ((((1 : Int64) <<< (x3.toInt64 &&& 63)) - (1 : Int64)) <<< (x1.toInt64 &&& 63))) else (if (sc X0 46) < (x2 + x4) then (fX12_isFree_L34 fu X0 x2 x4 ((((1 : Int64) <<< (x3.toInt64 &&& 63)) - (1 : Int64)) <<< (x1.toInt64 &&& 63))) else (fX12_isFree_L35 fu X0 x2 x4 ((((1 : Int64) <<< (x3.toInt64 &&& 63)) - (1 : Int64)) <<< (x1.toInt64 &&& 63)) (1 : Int32))))
def rmX12_hangsOne : Room := { frames := 1, cells := 0, slots := 0, locals := 28 }
def fX12_hangsOne_L178 (fu : Nat) (rec55 : SM → Int32 → Int32 → Int32 → Int32 → Option (SM)) (X : SM) (x1 : Int32) (x2 : Int32) (x3 : Int32) (x4 : Int32) : Option (SM) :=
  (rec55 X x1 x2 x3 (x4 + (1 : Int32)))
def fX12_hangsOne_L135b (fu : Nat) (rec55 : SM → Int32 → Int32 → Int32 → Int32 → Option (SM)) (rec135 : SM → Int32 → Int32 → Int32 → Int32 → Int32 → Option (SM)) (X : SM) (x1 : Int32) (x2 : Int32) (x3 : Int32) (x4 : Int32) (x5 : Int32) : Option (SM) :=
  (if (sc X 45) = 0 then none else (if ((x4 / (sc X 45)) + x3) ≤ x5 then (fX12_hangsOne_L178 fu rec55 X x1 x2 x3 x4) else (if inS 2 29 x5 = true then (if (sc X 45) = 0 then none else (if inS 2 29 x5 = true then (rec135 (ul X 29 x5.toNatClampNeg ((al X 29 x5.toNatClampNeg) ||| ((((1 : Int64) <<< (x2.toInt64 &&& 63)) - (1 : Int64)) <<< ((x4 - x4 / (sc X 45) * (sc X 45)).toInt64 &&& 63)))) x1 x2 x3 x4 (x5 + (1 : Int32))) else none)) else none)))
def fX12_hangsOne_L135 (fu : Nat) (rec55 : SM → Int32 → Int32 → Int32 → Int32 → Option (SM)) : Nat → SM → Int32 → Int32 → Int32 → Int32 → Int32 → Option (SM)
  | 0 => fun _ _ _ _ _ _ => none
  | n + 1 => fun X x1 x2 x3 x4 x5 => fX12_hangsOne_L135b fu rec55 (fX12_hangsOne_L135 fu rec55 n) X x1 x2 x3 x4 x5
def fX12_hangsOne_L55b (fu : Nat) (rec55 : SM → Int32 → Int32 → Int32 → Int32 → Option (SM)) (X : SM) (x1 : Int32) (x2 : Int32) (x3 : Int32) (x4 : Int32) : Option (SM) :=
  (if ((sc X 45) * (sc X 46)) ≤ x4 then (some X) else (if inS 0 30 x1 = true then (if (ar X 30 x1.toNatClampNeg) = (-1) then (if (sc X 45) = 0 then none else (if (sc X 45) = 0 then none else (Option.bind (fX12_isFree fu X (x4 - x4 / (sc X 45) * (sc X 45)) (x4 / (sc X 45)) x2 x3) fun v96 => (if v96 = 0 then (fX12_hangsOne_L178 fu rec55 X x1 x2 x3 x4) else (if (sc X 45) = 0 then none else (if (sc X 45) = 0 then none else (if inS 0 30 x1 = true then (if (sc (ua X 30 x1.toNatClampNeg (((100 : Int32) * (x4 - x4 / (sc X 45) * (sc X 45))) + (x4 / (sc X 45)))) 45) = 0 then none else (fX12_hangsOne_L135 fu rec55 fu (ua X 30 x1.toNatClampNeg (((100 : Int32) * (x4 - x4 / (sc X 45) * (sc X 45))) + (x4 / (sc X 45)))) x1 x2 x3 x4 (x4 / (sc (ua X 30 x1.toNatClampNeg (((100 : Int32) * (x4 - x4 / (sc X 45) * (sc X 45))) + (x4 / (sc X 45)))) 45)))) else none))))))) else (some X)) else none))
def fX12_hangsOne_L55 (fu : Nat)  : Nat → SM → Int32 → Int32 → Int32 → Int32 → Option (SM)
  | 0 => fun _ _ _ _ _ => none
  | n + 1 => fun X x1 x2 x3 x4 => fX12_hangsOne_L55b fu (fX12_hangsOne_L55 fu n) X x1 x2 x3 x4
def fX12_hangsOne (fu : Nat)  (X : SM) (x1 : Int32) : Option (SM) :=
  (if inS 0 26 x1 = true then (Option.bind (fX12_greatestOf fu X (ar X 26 x1.toNatClampNeg) (1 : Int32)) fun v8 => (if inS 0 26 x1 = true then (Option.bind (fX12_leastOf fu X (ar X 26 x1.toNatClampNeg) (1 : Int32)) fun v19 => (if inS 0 26 x1 = true then (Option.bind (fX12_greatestOf fu X (ar X 26 x1.toNatClampNeg) (0 : Int32)) fun v34 => (if inS 0 26 x1 = true then (Option.bind (fX12_leastOf fu X (ar X 26 x1.toNatClampNeg) (0 : Int32)) fun v45 => (fX12_hangsOne_L55 fu fu X x1 ((v8 - v19) + (1 : Int32)) ((v34 - v45) + (1 : Int32)) (0 : Int32))) else none)) else none)) else none)) else none)
def rmX12_hangsAll : Room := { frames := 4, cells := 0, slots := 0, locals := 98 }
def fX12_hangsAll_L69 (fu : Nat) (rec23 : SM → Int32 → Option (SM)) (X : SM) (x1 : Int32) : Option (SM) :=
  (rec23 X (x1 + (1 : Int32)))
def fX12_hangsAll_L64 (fu : Nat) (rec23 : SM → Int32 → Option (SM)) (X : SM) (x1 : Int32) : Option (SM) :=
  (Option.bind (fX12_hangsOne fu X x1) fun X66 => (fX12_hangsAll_L69 fu rec23 X66 x1))
def fX12_hangsAll_L23b (fu : Nat) (rec23 : SM → Int32 → Option (SM)) (X : SM) (x1 : Int32) : Option (SM) :=
  (if (sc X 41) ≤ x1 then (some X) else (if inS 0 30 x1 = true then (Option.bind (fX12_doesMeet fu (ua X 30 x1.toNatClampNeg (-1)) x1) fun v40 => (if v40 = 0 then (fX12_hangsAll_L69 fu rec23 (ua X 30 x1.toNatClampNeg (-1)) x1) else (if inS 1 28 x1 = true then (if (ar (ua X 30 x1.toNatClampNeg (-1)) 28 x1.toNatClampNeg) = 0 then (bW (fX12_copied fu (ua X 30 x1.toNatClampNeg (-1)) x1) fun v57 X57 => (if v57 = (-1) then (fX12_hangsAll_L64 fu rec23 X57 x1) else (fX12_hangsAll_L69 fu rec23 X57 x1))) else (fX12_hangsAll_L64 fu rec23 (ua X 30 x1.toNatClampNeg (-1)) x1)) else none))) else none))
def fX12_hangsAll_L23 (fu : Nat)  : Nat → SM → Int32 → Option (SM)
  | 0 => fun _ _ => none
  | n + 1 => fun X x1 => fX12_hangsAll_L23b fu (fX12_hangsAll_L23 fu n) X x1
def fX12_hangsAll_L2b (fu : Nat) (rec2 : SM → Int32 → Option (SM)) (X : SM) (x1 : Int32) : Option (SM) :=
  (if (40 : Int32) ≤ x1 then (fX12_hangsAll_L23 fu fu X (0 : Int32)) else (if inS 2 29 x1 = true then (rec2 (ul X 29 x1.toNatClampNeg (0 : Int64)) (x1 + (1 : Int32))) else none))
def fX12_hangsAll_L2 (fu : Nat)  : Nat → SM → Int32 → Option (SM)
  | 0 => fun _ _ => none
  | n + 1 => fun X x1 => fX12_hangsAll_L2b fu (fX12_hangsAll_L2 fu n) X x1
def fX12_hangsAll (fu : Nat)  (X : SM)  : Option (SM) :=
  (fX12_hangsAll_L2 fu fu X (0 : Int32))
def rmX12_setWall : Room := { frames := 5, cells := 0, slots := 0, locals := 119 }
def fX12_setWall_L79 (fu : Nat) (rec53 : SM → Int32 → Int32 → Option (Int32 × SM)) (X : SM) (x4 : Int32) (s0 : Int32) (s1 : Int32) : Option (Int32 × SM) :=
  (rec53 X (s0 + s1) (x4 + (1 : Int32)))
def fX12_setWall_L53b (fu : Nat) (rec53 : SM → Int32 → Int32 → Option (Int32 × SM)) (X : SM) (x3 : Int32) (x4 : Int32) : Option (Int32 × SM) :=
  (if (sc X 41) ≤ x4 then (some (x3, X)) else (if inS 0 30 x4 = true then (if (ar X 30 x4.toNatClampNeg) = (-1) then (fX12_setWall_L79 fu rec53 X x4 x3 (0 : Int32)) else (fX12_setWall_L79 fu rec53 X x4 x3 (1 : Int32))) else none))
def fX12_setWall_L53 (fu : Nat)  : Nat → SM → Int32 → Int32 → Option (Int32 × SM)
  | 0 => fun _ _ _ => none
  | n + 1 => fun X x3 x4 => fX12_setWall_L53b fu (fX12_setWall_L53 fu n) X x3 x4
def fX12_setWall_L26 (fu : Nat)  (X : SM) (x1 : Int32) (x2 : Int32) (s1 : Int32) : Option (Int32 × SM) :=
  (bW (fX12_holds X s1) fun v26 X26 => (if v26 = 0 then (some ((0 : Int32), X26)) else (Option.bind (fX12_hangsAll fu (uc (uc X26 45 x1) 46 x2)) fun X45 => (fX12_setWall_L53 fu fu X45 (0 : Int32) (0 : Int32)))))
def fX12_setWall_L25 (fu : Nat)  (X : SM) (x1 : Int32) (x2 : Int32) : Option (Int32 × SM) :=
  (fX12_setWall_L26 fu X x1 x2 (1 : Int32))
def fX12_setWall (fu : Nat)  (X : SM) (x1 : Int32) (x2 : Int32) : Option (Int32 × SM) :=
  (Option.bind (fX12_isIn X x1 (1 : Int32) (40 : Int32)) fun v5 => (if v5 = 0 then (fX12_setWall_L25 fu X x1 x2) else (Option.bind (fX12_isIn X x2 (1 : Int32) (40 : Int32)) fun v15 => (if v15 = 0 then (fX12_setWall_L25 fu X x1 x2) else (fX12_setWall_L26 fu X x1 x2 (0 : Int32))))))
def rmX12_longestRow : Room := { frames := 2, cells := 0, slots := 0, locals := 50 }
def fX12_longestRow_L177 (fu : Nat) (rec36 : SM → Int32 → Int32 → Int32 → Option (Int32 × SM)) (rec49 : SM → Int32 → Int32 → Int32 → Int32 → Option (Int32 × SM)) (X : SM) (x1 : Int32) (x2 : Int32) (x3 : Int32) (x4 : Int32) (s1 : Int32) (s2 : Int32) : Option (Int32 × SM) :=
  (if inS 0 22 s1 = true then (rec49 (ua X 22 s1.toNatClampNeg s2) x1 x2 x3 (x4 + (1 : Int32))) else none)
def fX12_longestRow_L122 (fu : Nat) (rec36 : SM → Int32 → Int32 → Int32 → Option (Int32 × SM)) (rec49 : SM → Int32 → Int32 → Int32 → Int32 → Option (Int32 × SM)) (X : SM) (x1 : Int32) (x2 : Int32) (x3 : Int32) (x4 : Int32) (s0 : Int32) : Option (Int32 × SM) :=
  (if inS 0 19 x3 = true then (if inS 0 19 ((30 : Int32) + x4) = true then (if (ar X 19 x3.toNatClampNeg) = (ar X 19 ((30 : Int32) + x4).toNatClampNeg) then (if inS 0 22 (((31 : Int32) * x3) + x4) = true then (fX12_longestRow_L177 fu rec36 rec49 X x1 x2 x3 x4 ((((31 : Int32) * (x3 + (1 : Int32))) + x4) + (1 : Int32)) ((ar X 22 (((31 : Int32) * x3) + x4).toNatClampNeg) + (1 : Int32))) else none) else (fX12_longestRow_L177 fu rec36 rec49 X x1 x2 x3 x4 ((((31 : Int32) * (x3 + (1 : Int32))) + x4) + (1 : Int32)) s0)) else none) else none)
def fX12_longestRow_L49b (fu : Nat) (rec36 : SM → Int32 → Int32 → Int32 → Option (Int32 × SM)) (rec49 : SM → Int32 → Int32 → Int32 → Int32 → Option (Int32 × SM)) (X : SM) (x1 : Int32) (x2 : Int32) (x3 : Int32) (x4 : Int32) : Option (Int32 × SM) :=
  (if inS 0 5 x2 = true then (if (ar X 5 x2.toNatClampNeg) ≤ x4 then (rec36 X x1 x2 (x3 + (1 : Int32))) else (if inS 0 22 ((((31 : Int32) * x3) + x4) + (1 : Int32)) = true then (if inS 0 22 (((31 : Int32) * (x3 + (1 : Int32))) + x4) = true then (if (ar X 22 ((((31 : Int32) * x3) + x4) + (1 : Int32)).toNatClampNeg) ≤ (ar X 22 (((31 : Int32) * (x3 + (1 : Int32))) + x4).toNatClampNeg) then (if inS 0 22 (((31 : Int32) * (x3 + (1 : Int32))) + x4) = true then (fX12_longestRow_L122 fu rec36 rec49 X x1 x2 x3 x4 (ar X 22 (((31 : Int32) * (x3 + (1 : Int32))) + x4).toNatClampNeg)) else none) else (if inS 0 22 ((((31 : Int32) * x3) + x4) + (1 : Int32)) = true then (fX12_longestRow_L122 fu rec36 rec49 X x1 x2 x3 x4 (ar X 22 ((((31 : Int32) * x3) + x4) + (1 : Int32)).toNatClampNeg)) else none)) else none) else none)) else none)
def fX12_longestRow_L49 (fu : Nat) (rec36 : SM → Int32 → Int32 → Int32 → Option (Int32 × SM)) : Nat → SM → Int32 → Int32 → Int32 → Int32 → Option (Int32 × SM)
  | 0 => fun _ _ _ _ _ => none
  | n + 1 => fun X x1 x2 x3 x4 => fX12_longestRow_L49b fu rec36 (fX12_longestRow_L49 fu rec36 n) X x1 x2 x3 x4
def fX12_longestRow_L36b (fu : Nat) (rec36 : SM → Int32 → Int32 → Int32 → Option (Int32 × SM)) (X : SM) (x1 : Int32) (x2 : Int32) (x3 : Int32) : Option (Int32 × SM) :=
  (if inS 0 5 x1 = true then (if (ar X 5 x1.toNatClampNeg) ≤ x3 then (if inS 0 5 x1 = true then (if inS 0 5 x2 = true then (if inS 0 22 (((31 : Int32) * (ar X 5 x1.toNatClampNeg)) + (ar X 5 x2.toNatClampNeg)) = true then (some ((ar X 22 (((31 : Int32) * (ar X 5 x1.toNatClampNeg)) + (ar X 5 x2.toNatClampNeg)).toNatClampNeg), X)) else none) else none) else none) else (fX12_longestRow_L49 fu rec36 fu X x1 x2 x3 (0 : Int32))) else none)
def fX12_longestRow_L36 (fu : Nat)  : Nat → SM → Int32 → Int32 → Int32 → Option (Int32 × SM)
  | 0 => fun _ _ _ _ => none
  | n + 1 => fun X x1 x2 x3 => fX12_longestRow_L36b fu (fX12_longestRow_L36 fu n) X x1 x2 x3
def fX12_longestRow_L14b (fu : Nat) (rec14 : SM → Int32 → Int32 → Int32 → Option (Int32 × SM)) (X : SM) (x1 : Int32) (x2 : Int32) (x3 : Int32) : Option (Int32 × SM) :=
  (if (961 : Int32) ≤ x3 then (fX12_longestRow_L36 fu fu X x1 x2 (0 : Int32)) else (if inS 0 22 x3 = true then (rec14 (ua X 22 x3.toNatClampNeg (0 : Int32)) x1 x2 (x3 + (1 : Int32))) else none))
def fX12_longestRow_L14 (fu : Nat)  : Nat → SM → Int32 → Int32 → Int32 → Option (Int32 × SM)
  | 0 => fun _ _ _ _ => none
  | n + 1 => fun X x1 x2 x3 => fX12_longestRow_L14b fu (fX12_longestRow_L14 fu n) X x1 x2 x3
def fX12_longestRow (fu : Nat)  (X : SM) (x1 : Int32) (x2 : Int32) : Option (Int32 × SM) :=
  (Option.bind (fX12_lays fu X x1 (0 : Int32)) fun X3 => (Option.bind (fX12_lays fu X3 x2 (1 : Int32)) fun X9 => (fX12_longestRow_L14 fu fu X9 x1 x2 (0 : Int32))))
def rmX12_drafted : Room := { frames := 0, cells := 0, slots := 0, locals := 0 }
def fX12_drafted  (X : SM)  : Option (Int32 × SM) :=
  (some ((sc (uc X 0 (0 : Int32)) 1), (uc X 0 (0 : Int32))))
def rmX12_programs : Room := { frames := 0, cells := 0, slots := 0, locals := 0 }
def fX12_programs  (X : SM)  : Option (Int32 × SM) :=
  (some ((sc (uc X 0 (0 : Int32)) 8), (uc X 0 (0 : Int32))))
def rmX12_fault : Room := { frames := 2, cells := 0, slots := 0, locals := 43 }
def fX12_fault_L14  (X : SM) (x1 : Int32) (s1 : Int32) : Option (Int32 × SM) :=
  (bW (fX12_holds X s1) fun v14 X14 => (if v14 = 0 then (some ((0 : Int32), X14)) else (if inS 0 10 x1 = true then (some ((ar X14 10 x1.toNatClampNeg), X14)) else none)))
def fX12_fault  (X : SM) (x1 : Int32) : Option (Int32 × SM) :=
  (Option.bind (fX12_isProgram X x1) fun v3 => (if v3 = 0 then (fX12_fault_L14 X x1 (1 : Int32)) else (fX12_fault_L14 X x1 (0 : Int32))))
def rmX12_steps : Room := { frames := 2, cells := 0, slots := 0, locals := 43 }
def fX12_steps_L14  (X : SM) (x1 : Int32) (s1 : Int32) : Option (Int32 × SM) :=
  (bW (fX12_holds X s1) fun v14 X14 => (if v14 = 0 then (some ((0 : Int32), X14)) else (if inS 0 11 x1 = true then (some ((ar X14 11 x1.toNatClampNeg), X14)) else none)))
def fX12_steps  (X : SM) (x1 : Int32) : Option (Int32 × SM) :=
  (Option.bind (fX12_isProgram X x1) fun v3 => (if v3 = 0 then (fX12_steps_L14 X x1 (1 : Int32)) else (fX12_steps_L14 X x1 (0 : Int32))))
def rmX12_strokes : Room := { frames := 2, cells := 0, slots := 0, locals := 43 }
def fX12_strokes_L14  (X : SM) (x1 : Int32) (s1 : Int32) : Option (Int32 × SM) :=
  (bW (fX12_holds X s1) fun v14 X14 => (if v14 = 0 then (some ((0 : Int32), X14)) else (if inS 0 12 x1 = true then (some ((ar X14 12 x1.toNatClampNeg), X14)) else none)))
def fX12_strokes  (X : SM) (x1 : Int32) : Option (Int32 × SM) :=
  (Option.bind (fX12_isProgram X x1) fun v3 => (if v3 = 0 then (fX12_strokes_L14 X x1 (1 : Int32)) else (fX12_strokes_L14 X x1 (0 : Int32))))
def rmX12_strokesBySteps : Room := { frames := 5, cells := 0, slots := 0, locals := 113 }
def fX12_strokesBySteps_L29 (fu : Nat)  (X : SM) (x1 : Int32) (x2 : Int32) (s1 : Int32) : Option (Int32 × SM) :=
  (bW (fX12_holds X s1) fun v29 X29 => (if v29 = 0 then (some ((0 : Int32), X29)) else (Option.bind (fX12_runs fu X29 x1) fun X39 => (if (sc X39 25) ≤ x2 then (if inS 0 18 (sc X39 25) = true then (some ((ar X39 18 (sc X39 25).toNatClampNeg), X39)) else none) else (if inS 0 18 x2 = true then (some ((ar X39 18 x2.toNatClampNeg), X39)) else none)))))
def fX12_strokesBySteps (fu : Nat)  (X : SM) (x1 : Int32) (x2 : Int32) : Option (Int32 × SM) :=
  (Option.bind (fX12_isProgram X x1) fun v3 => (if v3 = 0 then (fX12_strokesBySteps_L29 fu X x1 x2 (1 : Int32)) else (Option.bind (fX12_isIn X x2 (0 : Int32) (600 : Int32)) fun v18 => (if v18 = 0 then (fX12_strokesBySteps_L29 fu X x1 x2 (2 : Int32)) else (fX12_strokesBySteps_L29 fu X x1 x2 (0 : Int32))))))
def rmX12_isDrawn : Room := { frames := 2, cells := 0, slots := 0, locals := 43 }
def fX12_isDrawn_L60  (X : SM) (x2 : Int32) (s0 : Int32) : Option (Int32 × SM) :=
  (if ((s0 >>> (x2 &&& 31)) &&& (1 : Int32)) = (1 : Int32) then (some ((1 : Int32), X)) else (some ((0 : Int32), X)))
def fX12_isDrawn_L22  (X : SM) (x1 : Int32) (x2 : Int32) (x3 : Int32) (x4 : Int32) (s1 : Int32) : Option (Int32 × SM) :=
  (bW (fX12_holds X s1) fun v22 X22 => (if v22 = 0 then (some ((0 : Int32), X22)) else (if x4 = 0 then (if inS 0 13 (((16 : Int32) * x1) + x3) = true then (fX12_isDrawn_L60 X22 x2 (ar X22 13 (((16 : Int32) * x1) + x3).toNatClampNeg)) else none) else (if inS 0 14 (((16 : Int32) * x1) + x3) = true then (fX12_isDrawn_L60 X22 x2 (ar X22 14 (((16 : Int32) * x1) + x3).toNatClampNeg)) else none))))
def fX12_isDrawn_L21  (X : SM) (x1 : Int32) (x2 : Int32) (x3 : Int32) (x4 : Int32) : Option (Int32 × SM) :=
  (fX12_isDrawn_L22 X x1 x2 x3 x4 (1 : Int32))
def fX12_isDrawn  (X : SM) (x1 : Int32) (x2 : Int32) (x3 : Int32) (x4 : Int32) : Option (Int32 × SM) :=
  (Option.bind (fX12_isProgram X x1) fun v3 => (if v3 = 0 then (fX12_isDrawn_L21 X x1 x2 x3 x4) else (Option.bind (fX12_isOn X x2 x3) fun v11 => (if v11 = 0 then (fX12_isDrawn_L21 X x1 x2 x3 x4) else (fX12_isDrawn_L22 X x1 x2 x3 x4 (0 : Int32))))))
def rmX12_areTwo : Room := { frames := 2, cells := 0, slots := 0, locals := 43 }
def fX12_areTwo_L22  (X : SM) (s1 : Int32) : Option (Int32 × SM) :=
  (bW (fX12_holds X s1) fun v22 X22 => (if v22 = 0 ∨ v22 = 1 then (some (v22, X22)) else none))
def fX12_areTwo_L21  (X : SM)  : Option (Int32 × SM) :=
  (fX12_areTwo_L22 X (1 : Int32))
def fX12_areTwo  (X : SM) (x1 : Int32) (x2 : Int32) : Option (Int32 × SM) :=
  (Option.bind (fX12_isProgram X x1) fun v3 => (if v3 = 0 then (fX12_areTwo_L21 X) else (Option.bind (fX12_isProgram X x2) fun v11 => (if v11 = 0 then (fX12_areTwo_L21 X) else (fX12_areTwo_L22 X (0 : Int32))))))
def rmX12_areAlike : Room := { frames := 3, cells := 0, slots := 0, locals := 65 }
def fX12_areAlike (fu : Nat)  (X : SM) (x1 : Int32) (x2 : Int32) : Option (Int32 × SM) :=
  (bW (fX12_areTwo X x1 x2) fun v3 X3 => (if v3 = 0 then (some ((0 : Int32), X3)) else (Option.bind (fX12_alike fu X3 x1 x2) fun v12 => (if v12 = 0 then (some ((0 : Int32), X3)) else (some ((1 : Int32), X3))))))
def rmX12_haveOneForm : Room := { frames := 3, cells := 0, slots := 0, locals := 74 }
def fX12_haveOneForm (fu : Nat)  (X : SM) (x1 : Int32) (x2 : Int32) : Option (Int32 × SM) :=
  (bW (fX12_areTwo X x1 x2) fun v3 X3 => (if v3 = 0 then (some ((0 : Int32), X3)) else (bW (fX12_oneForm fu X3 x1 x2) fun v12 X12 => (if v12 = 0 then (some ((0 : Int32), X12)) else (some ((1 : Int32), X12))))))
def rmX12_likeness : Room := { frames := 3, cells := 0, slots := 0, locals := 75 }
def fX12_likeness (fu : Nat)  (X : SM) (x1 : Int32) (x2 : Int32) : Option (Int32 × SM) :=
  (bW (fX12_areTwo X x1 x2) fun v3 X3 => (if v3 = 0 then (some ((0 : Int32), X3)) else (bW (fX12_longestRow fu X3 x1 x2) fun v15 X15 => (if inS 0 5 x1 = true then (if inS 0 5 x2 = true then (if ((ar X15 5 x1.toNatClampNeg) + (ar X15 5 x2.toNatClampNeg)) = 0 then none else (some ((((200 : Int32) * v15) / ((ar X15 5 x1.toNatClampNeg) + (ar X15 5 x2.toNatClampNeg))), X15))) else none) else none))))
def rmX12_works : Room := { frames := 0, cells := 0, slots := 0, locals := 0 }
def fX12_works  (X : SM)  : Option (Int32 × SM) :=
  (some ((sc (uc X 0 (0 : Int32)) 41), (uc X 0 (0 : Int32))))
def rmX12_meets : Room := { frames := 3, cells := 0, slots := 0, locals := 82 }
def fX12_meets_L14 (fu : Nat)  (X : SM) (x1 : Int32) (s1 : Int32) : Option (Int32 × SM) :=
  (bW (fX12_holds X s1) fun v14 X14 => (if v14 = 0 then (some ((0 : Int32), X14)) else (Option.bind (fX12_doesMeet fu X14 x1) fun v22 => (if v22 = 0 then (some ((0 : Int32), X14)) else (some ((1 : Int32), X14))))))
def fX12_meets (fu : Nat)  (X : SM) (x1 : Int32) : Option (Int32 × SM) :=
  (Option.bind (fX12_isWork X x1) fun v3 => (if v3 = 0 then (fX12_meets_L14 fu X x1 (1 : Int32)) else (fX12_meets_L14 fu X x1 (0 : Int32))))
def rmX12_copyOf : Room := { frames := 4, cells := 0, slots := 0, locals := 98 }
def fX12_copyOf_L14 (fu : Nat)  (X : SM) (x1 : Int32) (s1 : Int32) : Option (Int32 × SM) :=
  (bW (fX12_holds X s1) fun v14 X14 => (if v14 = 0 then (some ((0 : Int32), X14)) else (bW (fX12_copied fu X14 x1) fun v22 X22 => (some (v22, X22)))))
def fX12_copyOf (fu : Nat)  (X : SM) (x1 : Int32) : Option (Int32 × SM) :=
  (Option.bind (fX12_isWork X x1) fun v3 => (if v3 = 0 then (fX12_copyOf_L14 fu X x1 (1 : Int32)) else (fX12_copyOf_L14 fu X x1 (0 : Int32))))
def rmX12_hangs : Room := { frames := 5, cells := 0, slots := 0, locals := 119 }
def fX12_hangs_L14 (fu : Nat)  (X : SM) (x1 : Int32) (s1 : Int32) : Option (Int32 × SM) :=
  (bW (fX12_holds X s1) fun v14 X14 => (if v14 = 0 then (some ((0 : Int32), X14)) else (Option.bind (fX12_hangsAll fu X14) fun X23 => (if inS 0 30 x1 = true then (some ((ar X23 30 x1.toNatClampNeg), X23)) else none))))
def fX12_hangs (fu : Nat)  (X : SM) (x1 : Int32) : Option (Int32 × SM) :=
  (Option.bind (fX12_isWork X x1) fun v3 => (if v3 = 0 then (fX12_hangs_L14 fu X x1 (1 : Int32)) else (fX12_hangs_L14 fu X x1 (0 : Int32))))
def rmX12_covers : Room := { frames := 1, cells := 0, slots := 0, locals := 27 }
def fX12_covers (fu : Nat) (X0 : SM)  (x1 : Int32) (x2 : Int32) (x3 : Int32) : Option (Int32) :=
  (if inS 0 26 x1 = true then (if inS 0 30 x1 = true then (if inS 0 30 x1 = true then (if inS 0 30 x1 = true then (if (ar X0 30 x1.toNatClampNeg) = (-1) then (some (0 : Int32)) else (Option.bind (fX12_greatestOf fu X0 (ar X0 26 x1.toNatClampNeg) (1 : Int32)) fun v51 => (Option.bind (fX12_leastOf fu X0 (ar X0 26 x1.toNatClampNeg) (1 : Int32)) fun v58 => (Option.bind (fX12_isIn X0 (x2 - ((ar X0 30 x1.toNatClampNeg) / (100 : Int32))) (0 : Int32) (v51 - v58)) fun v62 => (if v62 = 0 then (some (0 : Int32)) else (Option.bind (fX12_greatestOf fu X0 (ar X0 26 x1.toNatClampNeg) (0 : Int32)) fun v75 => (Option.bind (fX12_leastOf fu X0 (ar X0 26 x1.toNatClampNeg) (0 : Int32)) fun v82 => (Option.bind (fX12_isIn X0 (x3 - ((ar X0 30 x1.toNatClampNeg) - (ar X0 30 x1.toNatClampNeg) / (100 : Int32) * (100 : Int32))) (0 : Int32) (v75 - v82)) fun v86 => (if v86 = 0 then (some (0 : Int32)) else (some (1 : Int32))))))))))) else none) else none) else none) else none)
def rmX12_onWall : Room := { frames := 5, cells := 0, slots := 0, locals := 119 }
def fX12_onWall_L77 (fu : Nat) (rec51 : SM → Int32 → Int32 → Int32 → Int32 → Option (Int32 × SM)) (X : SM) (x1 : Int32) (x2 : Int32) (x4 : Int32) (s0 : Int32) : Option (Int32 × SM) :=
  (rec51 X x1 x2 s0 (x4 + (1 : Int32)))
def fX12_onWall_L51b (fu : Nat) (rec51 : SM → Int32 → Int32 → Int32 → Int32 → Option (Int32 × SM)) (X : SM) (x1 : Int32) (x2 : Int32) (x3 : Int32) (x4 : Int32) : Option (Int32 × SM) :=
  (if (sc X 41) ≤ x4 then (some (x3, X)) else (Option.bind (fX12_covers fu X x4 x1 x2) fun v65 => (if v65 = 0 then (fX12_onWall_L77 fu rec51 X x1 x2 x4 x3) else (fX12_onWall_L77 fu rec51 X x1 x2 x4 x4))))
def fX12_onWall_L51 (fu : Nat)  : Nat → SM → Int32 → Int32 → Int32 → Int32 → Option (Int32 × SM)
  | 0 => fun _ _ _ _ _ => none
  | n + 1 => fun X x1 x2 x3 x4 => fX12_onWall_L51b fu (fX12_onWall_L51 fu n) X x1 x2 x3 x4
def fX12_onWall_L34 (fu : Nat)  (X : SM) (x1 : Int32) (x2 : Int32) (s1 : Int32) : Option (Int32 × SM) :=
  (bW (fX12_holds X s1) fun v34 X34 => (if v34 = 0 then (some ((0 : Int32), X34)) else (Option.bind (fX12_hangsAll fu X34) fun X43 => (fX12_onWall_L51 fu fu X43 x1 x2 (-1) (0 : Int32)))))
def fX12_onWall_L33 (fu : Nat)  (X : SM) (x1 : Int32) (x2 : Int32) : Option (Int32 × SM) :=
  (fX12_onWall_L34 fu X x1 x2 (1 : Int32))
def fX12_onWall (fu : Nat)  (X : SM) (x1 : Int32) (x2 : Int32) : Option (Int32 × SM) :=
  (Option.bind (fX12_isIn X x1 (0 : Int32) ((sc X 45) - (1 : Int32))) fun v9 => (if v9 = 0 then (fX12_onWall_L33 fu X x1 x2) else (Option.bind (fX12_isIn X x2 (0 : Int32) ((sc X 46) - (1 : Int32))) fun v23 => (if v23 = 0 then (fX12_onWall_L33 fu X x1 x2) else (fX12_onWall_L34 fu X x1 x2 (0 : Int32))))))
def rmX12_hung : Room := { frames := 5, cells := 0, slots := 0, locals := 119 }
def fX12_hung_L70 (fu : Nat) (rec31 : SM → Int32 → Int32 → Int32 → Option (Int32 × SM)) (X : SM) (x1 : Int32) (x3 : Int32) (s0 : Int32) (s1 : Int32) : Option (Int32 × SM) :=
  (rec31 X x1 (s0 + s1) (x3 + (1 : Int32)))
def fX12_hung_L69 (fu : Nat) (rec31 : SM → Int32 → Int32 → Int32 → Option (Int32 × SM)) (X : SM) (x1 : Int32) (x3 : Int32) (s0 : Int32) : Option (Int32 × SM) :=
  (fX12_hung_L70 fu rec31 X x1 x3 s0 (0 : Int32))
def fX12_hung_L31b (fu : Nat) (rec31 : SM → Int32 → Int32 → Int32 → Option (Int32 × SM)) (X : SM) (x1 : Int32) (x2 : Int32) (x3 : Int32) : Option (Int32 × SM) :=
  (if (sc X 41) ≤ x3 then (some (x2, X)) else (if inS 0 30 x3 = true then (if (ar X 30 x3.toNatClampNeg) = (-1) then (fX12_hung_L69 fu rec31 X x1 x3 x2) else (if inS 0 26 x3 = true then (if inS 0 4 (ar X 26 x3.toNatClampNeg) = true then (if (ar X 4 (ar X 26 x3.toNatClampNeg).toNatClampNeg) = x1 then (fX12_hung_L70 fu rec31 X x1 x3 x2 (1 : Int32)) else (fX12_hung_L69 fu rec31 X x1 x3 x2)) else none) else none)) else none))
def fX12_hung_L31 (fu : Nat)  : Nat → SM → Int32 → Int32 → Int32 → Option (Int32 × SM)
  | 0 => fun _ _ _ _ => none
  | n + 1 => fun X x1 x2 x3 => fX12_hung_L31b fu (fX12_hung_L31 fu n) X x1 x2 x3
def fX12_hung_L15 (fu : Nat)  (X : SM) (x1 : Int32) (s1 : Int32) : Option (Int32 × SM) :=
  (bW (fX12_holds X s1) fun v15 X15 => (if v15 = 0 then (some ((0 : Int32), X15)) else (Option.bind (fX12_hangsAll fu X15) fun X24 => (fX12_hung_L31 fu fu X24 x1 (0 : Int32) (0 : Int32)))))
def fX12_hung (fu : Nat)  (X : SM) (x1 : Int32) : Option (Int32 × SM) :=
  (Option.bind (fX12_isIn X x1 (0 : Int32) (5 : Int32)) fun v4 => (if v4 = 0 then (fX12_hung_L15 fu X x1 (1 : Int32)) else (fX12_hung_L15 fu X x1 (0 : Int32))))
