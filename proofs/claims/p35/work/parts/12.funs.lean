def rmX1_init : Room := { frames := 1, cells := 2, slots := 34, locals := 20 }
def fX1_init  (X : Mem) (x0 : Nat) : Option (Mem) :=
  (Option.bind (some (mZ X)) fun q7 => (Option.bind (some (nA X 3 30)) fun X7 => (if mK X7 x0 = some (1, 0) then (Option.bind (some (mZ (wR X7 100 x0 (some q7)))) fun q15 => (Option.bind (some (nA (wR X7 100 x0 (some q7)) 1 4)) fun X15 => (if mK X15 x0 = some (1, 0) then (some (wR X15 101 x0 (some q15))) else none))) else none)))
def rmX8_init : Room := { frames := 1, cells := 0, slots := 0, locals := 20 }
def fX8_init (X0 : Mem)  (x0 : Nat) : Option (Unit) :=
  (some ())
def rmX2_init : Room := { frames := 1, cells := 2, slots := 32, locals := 20 }
def fX2_init  (X : Mem) (x0 : Nat) : Option (Mem) :=
  (Option.bind (some (mZ X)) fun q7 => (Option.bind (some (nA X 0 16)) fun X7 => (if mK X7 x0 = some (2, 0) then (Option.bind (some (mZ (wR X7 200 x0 (some q7)))) fun q15 => (Option.bind (some (nA (wR X7 200 x0 (some q7)) 0 16)) fun X15 => (if mK X15 x0 = some (2, 0) then (some (wR X15 201 x0 (some q15))) else none))) else none)))
def rmX7_init : Room := { frames := 2, cells := 7, slots := 325, locals := 40 }
def fX7_init  (X : Mem) (x0 : Nat) : Option (Mem) :=
  (Option.bind (some (mZ X)) fun q5 => (Option.bind (some (nO X 8)) fun X5 => (Option.bind (fX8_init X5 q5) fun _ => (if mK X5 x0 = some (7, 0) then (Option.bind (some (mZ (wR X5 700 x0 (some q5)))) fun q17 => (Option.bind (some (nA (wR X5 700 x0 (some q5)) 0 4)) fun X17 => (if mK X17 x0 = some (7, 0) then (Option.bind (some (mZ (wR X17 701 x0 (some q17)))) fun q26 => (Option.bind (some (nA (wR X17 701 x0 (some q17)) 0 270)) fun X26 => (if mK X26 x0 = some (7, 0) then (Option.bind (some (mZ (wR X26 702 x0 (some q26)))) fun q34 => (Option.bind (some (nA (wR X26 702 x0 (some q26)) 0 8)) fun X34 => (if mK X34 x0 = some (7, 0) then (Option.bind (some (mZ (wR X34 703 x0 (some q34)))) fun q40 => (Option.bind (some (nO (wR X34 703 x0 (some q34)) 2)) fun X40 => (Option.bind (fX2_init X40 q40) fun X44 => (if mK X44 x0 = some (7, 0) then (some (wR X44 704 x0 (some q40))) else none)))) else none))) else none))) else none))) else none))))
def rmX0_init : Room := { frames := 1, cells := 2, slots := 62, locals := 20 }
def fX0_init  (X : Mem) (x0 : Nat) : Option (Mem) :=
  (Option.bind (some (mZ X)) fun q7 => (Option.bind (some (nA X 0 31)) fun X7 => (if mK X7 x0 = some (0, 0) then (Option.bind (some (mZ (wR X7 0 x0 (some q7)))) fun q15 => (Option.bind (some (nA (wR X7 0 x0 (some q7)) 0 31)) fun X15 => (if mK X15 x0 = some (0, 0) then (some (wR X15 1 x0 (some q15))) else none))) else none)))
def rmX9_init : Room := { frames := 1, cells := 1, slots := 40, locals := 20 }
def fX9_init  (X : Mem) (x0 : Nat) : Option (Mem) :=
  (Option.bind (some (mZ X)) fun q7 => (Option.bind (some (nA X 2 40)) fun X7 => (if mK X7 x0 = some (9, 0) then (some (wI (wI (wR X7 900 x0 (some q7)) 901 x0 (20 : Int32)) 902 x0 (20 : Int32))) else none)))
def rmX11_init : Room := { frames := 3, cells := 22, slots := 578, locals := 60 }
def fX11_init  (X : Mem) (x0 : Nat) : Option (Mem) :=
  (Option.bind (some (mZ X)) fun q5 => (Option.bind (some (nO X 1)) fun X5 => (Option.bind (fX1_init X5 q5) fun X9 => (if mK X9 x0 = some (11, 0) then (Option.bind (some (mZ (wR X9 1100 x0 (some q5)))) fun q16 => (Option.bind (some (nO (wR X9 1100 x0 (some q5)) 7)) fun X16 => (Option.bind (fX7_init X16 q16) fun X20 => (if mK X20 x0 = some (11, 0) then (Option.bind (some (mZ (wR X20 1101 x0 (some q16)))) fun q27 => (Option.bind (some (nO (wR X20 1101 x0 (some q16)) 2)) fun X27 => (Option.bind (fX2_init X27 q27) fun X31 => (if mK X31 x0 = some (11, 0) then (Option.bind (some (mZ (wR X31 1102 x0 (some q27)))) fun q38 => (Option.bind (some (nO (wR X31 1102 x0 (some q27)) 0)) fun X38 => (Option.bind (fX0_init X38 q38) fun X42 => (if mK X42 x0 = some (11, 0) then (Option.bind (some (mZ (wR X42 1103 x0 (some q38)))) fun q49 => (Option.bind (some (nO (wR X42 1103 x0 (some q38)) 9)) fun X49 => (Option.bind (fX9_init X49 q49) fun X53 => (if mK X53 x0 = some (11, 0) then (Option.bind (some (mZ (wR X53 1104 x0 (some q49)))) fun q62 => (Option.bind (some (nA (wR X53 1104 x0 (some q49)) 4 30)) fun X62 => (if mK X62 x0 = some (11, 0) then (Option.bind (some (mZ (wR X62 1105 x0 (some q62)))) fun q71 => (Option.bind (some (nA (wR X62 1105 x0 (some q62)) 5 6)) fun X71 => (if mK X71 x0 = some (11, 0) then (Option.bind (some (mZ (wR X71 1106 x0 (some q71)))) fun q80 => (Option.bind (some (nA (wR X71 1106 x0 (some q71)) 6 24)) fun X80 => (if mK X80 x0 = some (11, 0) then (some (wR X80 1107 x0 (some q80))) else none))) else none))) else none))) else none)))) else none)))) else none)))) else none)))) else none))))
def rmX11_checkName : Room := { frames := 0, cells := 0, slots := 0, locals := 0 }
def fX11_checkName (X0 : Mem)  (x0 : Int32) : Option (String ⊕ (Unit)) :=
  (if x0 < 0 then (some (.inl "java/lang/IndexOutOfBoundsException")) else (if x0 < (4 : Int32) then (some (.inr ())) else (some (.inl "java/lang/IndexOutOfBoundsException"))))
def rmX11_checkValue : Room := { frames := 1, cells := 0, slots := 0, locals := 20 }
def fX11_checkValue (X0 : Mem)  (x0 : Int32) (x1 : Int32) (x2 : Int32) : Option (String ⊕ (Unit)) :=
  (if x1 = 0 then (if x0 < x2 then (some (.inl "java/lang/IllegalArgumentException")) else (if x0 ≤ (99 : Int32) then (some (.inr ())) else (some (.inl "java/lang/IllegalArgumentException")))) else (bE (fX11_checkName X0 x0) fun v5 => (some (.inr ()))))
def rmX1_length : Room := { frames := 0, cells := 0, slots := 0, locals := 0 }
def fX1_length (X0 : Mem)  (x0 : Nat) : Option (Int32) :=
  (if mK X0 x0 = some (1, 0) then (some (mI X0 102 x0)) else none)
def rmX4_init : Room := { frames := 1, cells := 0, slots := 0, locals := 20 }
def fX4_init  (X : Mem) (x0 : Nat) (x1 : Int32) (x2 : Int32) (x3 : Int32) (x4 : Int32) : Option (Mem) :=
  (if mK X x0 = some (4, 0) then (if x4 = 0 ∨ x4 = 1 then (some (wI (wI (wI (wI X 400 x0 x1) 401 x0 x2) 402 x0 x3) 403 x0 x4)) else none) else none)
def rmX4_opensBlock : Room := { frames := 0, cells := 0, slots := 0, locals := 0 }
def fX4_opensBlock (X0 : Mem)  (x0 : Nat) : Option (Int32) :=
  (if mK X0 x0 = some (4, 0) then (if (mI X0 400 x0) = (5 : Int32) then (some (1 : Int32)) else (if (mI X0 400 x0) = (6 : Int32) then (some (1 : Int32)) else (some (0 : Int32)))) else none)
def rmX1_append : Room := { frames := 1, cells := 0, slots := 0, locals := 20 }
def fX1_append_L79  (X : Mem) (x0 : Nat) (x1 : Nat) : Option (Mem) :=
  (if mK X x1 = some (4, 0) then (if (mI X 400 x1) = (6 : Int32) then (if (mI X 401 x1) < 0 then (some X) else (if mK X x0 = some (1, 0) then (Option.bind (mR X 101 x0) fun a103_3 => (Option.bind (alen X a103_3) fun n103_3 => (if (nI n103_3) ≤ (mI X 401 x1) then (some X) else (Option.bind (mR X 101 x0) fun a116_5 => (if inb X 1 a116_5 (mI X 401 x1) = true then (some (sI X a116_5 (mI X 401 x1).toNatClampNeg (1 : Int32))) else none))))) else none)) else (some X)) else none)
def fX1_append  (X : Mem) (x0 : Nat) (x1 : Option Nat) : Option (Mem) :=
  (if mK X x0 = some (1, 0) then (if (mI X 102 x0) < 0 then (some X) else (Option.bind (mR X 100 x0) fun a15_2 => (Option.bind (alen X a15_2) fun n15_2 => (if (mI X 102 x0) < (nI n15_2) then (Option.bind (mR X 100 x0) fun a29_4 => (if inb X 3 a29_4 (mI X 102 x0) = true then (Option.bind x1 fun a29_5 => (if mK X a29_5 = some (4, 0) then (Option.bind (fX4_opensBlock (wI (sR X a29_4 (mI X 102 x0).toNatClampNeg (some a29_5)) 102 x0 ((mI (sR X a29_4 (mI X 102 x0).toNatClampNeg (some a29_5)) 102 x0) + (1 : Int32))) a29_5) fun v41 => (if v41 = 0 then (if (mI (wI (sR X a29_4 (mI X 102 x0).toNatClampNeg (some a29_5)) 102 x0 ((mI (sR X a29_4 (mI X 102 x0).toNatClampNeg (some a29_5)) 102 x0) + (1 : Int32))) 400 a29_5) = (8 : Int32) then (fX1_append_L79 (wI (wI (sR X a29_4 (mI X 102 x0).toNatClampNeg (some a29_5)) 102 x0 ((mI (sR X a29_4 (mI X 102 x0).toNatClampNeg (some a29_5)) 102 x0) + (1 : Int32))) 103 x0 ((mI (wI (sR X a29_4 (mI X 102 x0).toNatClampNeg (some a29_5)) 102 x0 ((mI (sR X a29_4 (mI X 102 x0).toNatClampNeg (some a29_5)) 102 x0) + (1 : Int32))) 103 x0) - (1 : Int32))) x0 a29_5) else (fX1_append_L79 (wI (sR X a29_4 (mI X 102 x0).toNatClampNeg (some a29_5)) 102 x0 ((mI (sR X a29_4 (mI X 102 x0).toNatClampNeg (some a29_5)) 102 x0) + (1 : Int32))) x0 a29_5)) else (fX1_append_L79 (wI (wI (sR X a29_4 (mI X 102 x0).toNatClampNeg (some a29_5)) 102 x0 ((mI (sR X a29_4 (mI X 102 x0).toNatClampNeg (some a29_5)) 102 x0) + (1 : Int32))) 103 x0 ((mI (wI (sR X a29_4 (mI X 102 x0).toNatClampNeg (some a29_5)) 102 x0 ((mI (sR X a29_4 (mI X 102 x0).toNatClampNeg (some a29_5)) 102 x0) + (1 : Int32))) 103 x0) + (1 : Int32))) x0 a29_5))) else none)) else none)) else (some X))))) else none)
def rmX11_addOrder : Room := { frames := 2, cells := 1, slots := 4, locals := 44 }
def fX11_addOrder  (X0 : Mem) (x0 : Nat) (x1 : Int32) (x2 : Int32) (x3 : Int32) (x4 : Int32) : Option (String ⊕ (Int32 × Mem)) :=
  (if mK X0 x0 = some (11, 0) then (Option.bind (mR X0 1100 x0) fun a4_2 => (if mK X0 a4_2 = some (1, 0) then (Option.bind (fX1_length X0 a4_2) fun v4 => (if v4 < (30 : Int32) then (Option.bind (some (mZ X0)) fun q27 => (Option.bind (some (nO X0 4)) fun X27 => (Option.bind (fX4_init X27 q27 x1 x2 x3 x4) fun X36 => (Option.bind (mR X0 1100 x0) fun a39_4 => (if mK X36 a39_4 = some (1, 0) then (Option.bind (fX1_append X36 a39_4 (some q27)) fun X39 => (if mK X39 x0 = some (11, 0) then (Option.bind (mR X39 1100 x0) fun a46_7 => (if mK X39 a46_7 = some (1, 0) then (Option.bind (fX1_length X39 a46_7) fun v46 => (some (.inr (v46, X39)))) else none)) else none)) else none))))) else (some (.inl "java/lang/IllegalStateException")))) else none)) else none)
def rmX11_forward : Room := { frames := 3, cells := 1, slots := 4, locals := 68 }
def fX11_forward  (X0 : Mem) (x0 : Nat) (x1 : Int32) (x2 : Int32) : Option (String ⊕ (Int32 × Mem)) :=
  (bE (fX11_checkValue X0 x1 x2 (0 : Int32)) fun v3 => (if mK X0 x0 = some (11, 0) then (bEW (fX11_addOrder X0 x0 (0 : Int32) (0 : Int32) x1 x2) fun v11 X11 => (some (.inr (v11, X11)))) else none))
def rmX11_turn : Room := { frames := 3, cells := 1, slots := 4, locals := 68 }
def fX11_turn  (X0 : Mem) (x0 : Nat) (x1 : Int32) (x2 : Int32) : Option (String ⊕ (Int32 × Mem)) :=
  (bE (fX11_checkValue X0 x1 x2 (0 : Int32)) fun v3 => (if mK X0 x0 = some (11, 0) then (bEW (fX11_addOrder X0 x0 (1 : Int32) (0 : Int32) x1 x2) fun v11 X11 => (some (.inr (v11, X11)))) else none))
def rmX11_pen : Room := { frames := 3, cells := 1, slots := 4, locals := 68 }
def fX11_pen_L12  (X0 : Mem) (s0 : Nat) (s1 : Int32) (s2 : Int32) (s3 : Int32) : Option (String ⊕ (Int32 × Mem)) :=
  (if mK X0 s0 = some (11, 0) then (bEW (fX11_addOrder X0 s0 s1 s2 s3 (0 : Int32)) fun v13 X13 => (some (.inr (v13, X13)))) else none)
def fX11_pen  (X0 : Mem) (x0 : Nat) (x1 : Int32) : Option (String ⊕ (Int32 × Mem)) :=
  (if x1 = 0 then (fX11_pen_L12 X0 x0 (2 : Int32) (0 : Int32) (0 : Int32)) else (fX11_pen_L12 X0 x0 (2 : Int32) (0 : Int32) (1 : Int32)))
def rmX11_set : Room := { frames := 3, cells := 1, slots := 4, locals := 68 }
def fX11_set  (X0 : Mem) (x0 : Nat) (x1 : Int32) (x2 : Int32) (x3 : Int32) : Option (String ⊕ (Int32 × Mem)) :=
  (bE (fX11_checkName X0 x1) fun v1 => (bE (fX11_checkValue X0 x2 x3 (-99)) fun v8 => (if mK X0 x0 = some (11, 0) then (bEW (fX11_addOrder X0 x0 (3 : Int32) x1 x2 x3) fun v16 X16 => (some (.inr (v16, X16)))) else none)))
def rmX11_add : Room := { frames := 3, cells := 1, slots := 4, locals := 68 }
def fX11_add  (X0 : Mem) (x0 : Nat) (x1 : Int32) (x2 : Int32) (x3 : Int32) : Option (String ⊕ (Int32 × Mem)) :=
  (bE (fX11_checkName X0 x1) fun v1 => (bE (fX11_checkValue X0 x2 x3 (-99)) fun v8 => (if mK X0 x0 = some (11, 0) then (bEW (fX11_addOrder X0 x0 (4 : Int32) x1 x2 x3) fun v16 X16 => (some (.inr (v16, X16)))) else none)))
def rmX11_repeat : Room := { frames := 3, cells := 1, slots := 4, locals := 68 }
def fX11_repeat  (X0 : Mem) (x0 : Nat) (x1 : Int32) (x2 : Int32) : Option (String ⊕ (Int32 × Mem)) :=
  (bE (fX11_checkValue X0 x1 x2 (0 : Int32)) fun v3 => (if mK X0 x0 = some (11, 0) then (bEW (fX11_addOrder X0 x0 (5 : Int32) (0 : Int32) x1 x2) fun v11 X11 => (some (.inr (v11, X11)))) else none))
def rmX11_checkWord : Room := { frames := 0, cells := 0, slots := 0, locals := 0 }
def fX11_checkWord (X0 : Mem)  (x0 : Int32) : Option (String ⊕ (Unit)) :=
  (if x0 < 0 then (some (.inl "java/lang/IndexOutOfBoundsException")) else (if x0 < (4 : Int32) then (some (.inr ())) else (some (.inl "java/lang/IndexOutOfBoundsException"))))
def rmX1_openBlocks : Room := { frames := 0, cells := 0, slots := 0, locals := 0 }
def fX1_openBlocks (X0 : Mem)  (x0 : Nat) : Option (Int32) :=
  (if mK X0 x0 = some (1, 0) then (some (mI X0 103 x0)) else none)
def rmX1_tells : Room := { frames := 0, cells := 0, slots := 0, locals := 0 }
def fX1_tells (X0 : Mem)  (x0 : Nat) (x1 : Int32) : Option (Int32) :=
  (if x1 < 0 then (some (0 : Int32)) else (if mK X0 x0 = some (1, 0) then (Option.bind (mR X0 101 x0) fun a9_2 => (Option.bind (alen X0 a9_2) fun n9_2 => (if (nI n9_2) ≤ x1 then (some (0 : Int32)) else (Option.bind (mR X0 101 x0) fun a18_4 => (if inb X0 1 a18_4 x1 = true then (if (aI X0 a18_4 x1.toNatClampNeg) = 0 then (some (0 : Int32)) else (some (1 : Int32))) else none))))) else none))
def rmX11_word : Room := { frames := 3, cells := 1, slots := 4, locals := 68 }
def fX11_word  (X0 : Mem) (x0 : Nat) (x1 : Int32) : Option (String ⊕ (Int32 × Mem)) :=
  (bE (fX11_checkWord X0 x1) fun v1 => (if mK X0 x0 = some (11, 0) then (Option.bind (mR X0 1100 x0) fun a8_2 => (if mK X0 a8_2 = some (1, 0) then (Option.bind (fX1_openBlocks X0 a8_2) fun v8 => (if 0 < v8 then (some (.inl "java/lang/IllegalStateException")) else (Option.bind (mR X0 1100 x0) fun a19_4 => (if mK X0 a19_4 = some (1, 0) then (Option.bind (fX1_tells X0 a19_4 x1) fun v19 => (if v19 = 0 then (bEW (fX11_addOrder X0 x0 (6 : Int32) x1 (0 : Int32) (0 : Int32)) fun v41 X41 => (some (.inr (v41, X41)))) else (some (.inl "java/lang/IllegalStateException")))) else none)))) else none)) else none))
def rmX11_call : Room := { frames := 3, cells := 1, slots := 4, locals := 68 }
def fX11_call  (X0 : Mem) (x0 : Nat) (x1 : Int32) : Option (String ⊕ (Int32 × Mem)) :=
  (bE (fX11_checkWord X0 x1) fun v1 => (if mK X0 x0 = some (11, 0) then (bEW (fX11_addOrder X0 x0 (7 : Int32) x1 (0 : Int32) (0 : Int32)) fun v10 X10 => (some (.inr (v10, X10)))) else none))
def rmX11_end : Room := { frames := 3, cells := 1, slots := 4, locals := 68 }
def fX11_end  (X0 : Mem) (x0 : Nat) : Option (String ⊕ (Int32 × Mem)) :=
  (if mK X0 x0 = some (11, 0) then (Option.bind (mR X0 1100 x0) fun a4_2 => (if mK X0 a4_2 = some (1, 0) then (Option.bind (fX1_openBlocks X0 a4_2) fun v4 => (if 0 < v4 then (bEW (fX11_addOrder X0 x0 (8 : Int32) (0 : Int32) (0 : Int32) (0 : Int32)) fun v26 X26 => (if mK X26 x0 = some (11, 0) then (Option.bind (mR X26 1100 x0) fun a34_5 => (if mK X26 a34_5 = some (1, 0) then (Option.bind (fX1_openBlocks X26 a34_5) fun v34 => (some (.inr (v34, X26)))) else none)) else none)) else (some (.inl "java/lang/IllegalStateException")))) else none)) else none)
def rmX1_makeEmpty : Room := { frames := 0, cells := 0, slots := 0, locals := 0 }
def fX1_makeEmpty_L12b (fu : Nat) (rec12 : Mem → Nat → Int32 → Option (Mem)) (X : Mem) (x0 : Nat) (x1 : Int32) : Option (Mem) :=
  (if mK X x0 = some (1, 0) then (Option.bind (mR X 101 x0) fun a17_2 => (Option.bind (alen X a17_2) fun n17_2 => (if (nI n17_2) ≤ x1 then (some X) else (Option.bind (mR X 101 x0) fun a27_4 => (if inb X 1 a27_4 x1 = true then (rec12 (sI X a27_4 x1.toNatClampNeg (0 : Int32)) x0 (x1 + (1 : Int32))) else none))))) else none)
def fX1_makeEmpty_L12 (fu : Nat)  : Nat → Mem → Nat → Int32 → Option (Mem)
  | 0 => fun _ _ _ => none
  | n + 1 => fun X x0 x1 => fX1_makeEmpty_L12b fu (fX1_makeEmpty_L12 fu n) X x0 x1
def fX1_makeEmpty (fu : Nat)  (X : Mem) (x0 : Nat) : Option (Mem) :=
  (if mK X x0 = some (1, 0) then (fX1_makeEmpty_L12 fu fu (wI (wI X 102 x0 (0 : Int32)) 103 x0 (0 : Int32)) x0 (0 : Int32)) else none)
def rmX11_wipe : Room := { frames := 1, cells := 0, slots := 0, locals := 21 }
def fX11_wipe (fu : Nat)  (X : Mem) (x0 : Nat) : Option (Int32 × Mem) :=
  (if mK X x0 = some (11, 0) then (Option.bind (mR X 1100 x0) fun a4_2 => (if mK X a4_2 = some (1, 0) then (Option.bind (fX1_length X a4_2) fun v4 => (Option.bind (mR X 1100 x0) fun a12_4 => (if mK X a12_4 = some (1, 0) then (Option.bind (fX1_makeEmpty fu X a12_4) fun X12 => (some (v4, X12))) else none))) else none)) else none)
def rmX11_checkPupil : Room := { frames := 0, cells := 0, slots := 0, locals := 0 }
def fX11_checkPupil (X0 : Mem)  (x0 : Int32) : Option (String ⊕ (Unit)) :=
  (if x0 < 0 then (some (.inl "java/lang/IndexOutOfBoundsException")) else (if x0 < (6 : Int32) then (some (.inr ())) else (some (.inl "java/lang/IndexOutOfBoundsException"))))
def rmX1_orderAt : Room := { frames := 0, cells := 0, slots := 0, locals := 0 }
def fX1_orderAt (X0 : Mem)  (x0 : Nat) (x1 : Int32) : Option (Option Nat) :=
  (if x1 < 0 then (some none) else (if mK X0 x0 = some (1, 0) then (if (mI X0 102 x0) ≤ x1 then (some none) else (Option.bind (mR X0 100 x0) fun a17_2 => (Option.bind (alen X0 a17_2) fun n17_2 => (if (nI n17_2) ≤ x1 then (some none) else (Option.bind (mR X0 100 x0) fun a26_4 => (if inb X0 3 a26_4 x1 = true then (some (aR X0 a26_4 x1.toNatClampNeg)) else none)))))) else none))
def rmX5_orderAt : Room := { frames := 0, cells := 0, slots := 0, locals := 0 }
def fX5_orderAt (X0 : Mem)  (x0 : Nat) (x1 : Int32) : Option (Option Nat) :=
  (if x1 < 0 then (some none) else (if mK X0 x0 = some (5, 0) then (Option.bind (mR X0 501 x0) fun a9_2 => (Option.bind (alen X0 a9_2) fun n9_2 => (if (nI n9_2) ≤ x1 then (some none) else (Option.bind (mR X0 501 x0) fun a18_4 => (if inb X0 3 a18_4 x1 = true then (some (aR X0 a18_4 x1.toNatClampNeg)) else none))))) else none))
def rmX5_partnerOf : Room := { frames := 0, cells := 0, slots := 0, locals := 0 }
def fX5_partnerOf (X0 : Mem)  (x0 : Nat) (x1 : Int32) : Option (Int32) :=
  (if x1 < 0 then (some (-1)) else (if mK X0 x0 = some (5, 0) then (Option.bind (mR X0 502 x0) fun a9_2 => (Option.bind (alen X0 a9_2) fun n9_2 => (if (nI n9_2) ≤ x1 then (some (-1)) else (Option.bind (mR X0 502 x0) fun a18_4 => (if inb X0 0 a18_4 x1 = true then (some (aI X0 a18_4 x1.toNatClampNeg)) else none))))) else none))
def rmX5_lastOpenAhead : Room := { frames := 1, cells := 0, slots := 0, locals := 21 }
def fX5_lastOpenAhead_L36 (fu : Nat) (X0 : Mem) (rec4 : Nat → Int32 → Option (Int32)) (x0 : Nat) (x2 : Int32) : Option (Int32) :=
  (rec4 x0 (x2 + (-1)))
def fX5_lastOpenAhead_L4b (fu : Nat) (X0 : Mem) (rec4 : Nat → Int32 → Option (Int32)) (x0 : Nat) (x2 : Int32) : Option (Int32) :=
  (if x2 < 0 then (some (-1)) else (if mK X0 x0 = some (5, 0) then (Option.bind (fX5_orderAt X0 x0 x2) fun v10 => (if v10 = none then (fX5_lastOpenAhead_L36 fu X0 rec4 x0 x2) else (Option.bind v10 fun a19_2 => (if mK X0 a19_2 = some (4, 0) then (Option.bind (fX4_opensBlock X0 a19_2) fun v19 => (if v19 = 0 then (fX5_lastOpenAhead_L36 fu X0 rec4 x0 x2) else (Option.bind (fX5_partnerOf X0 x0 x2) fun v27 => (if v27 = (-1) then (some x2) else (fX5_lastOpenAhead_L36 fu X0 rec4 x0 x2))))) else none)))) else none))
def fX5_lastOpenAhead_L4 (fu : Nat) (X0 : Mem)  : Nat → Nat → Int32 → Option (Int32)
  | 0 => fun _ _ => none
  | n + 1 => fun x0 x2 => fX5_lastOpenAhead_L4b fu X0 (fX5_lastOpenAhead_L4 fu X0 n) x0 x2
def fX5_lastOpenAhead (fu : Nat) (X0 : Mem)  (x0 : Nat) (x1 : Int32) : Option (Int32) :=
  (fX5_lastOpenAhead_L4 fu X0 fu x0 (x1 - (1 : Int32)))
def rmX5_pairBlocks : Room := { frames := 2, cells := 0, slots := 0, locals := 44 }
def fX5_pairBlocks_L80 (fu : Nat) (rec2 : Mem → Nat → Int32 → Option (Mem)) (X : Mem) (x0 : Nat) (x1 : Int32) : Option (Mem) :=
  (rec2 X x0 (x1 + (1 : Int32)))
def fX5_pairBlocks_L2b (fu : Nat) (rec2 : Mem → Nat → Int32 → Option (Mem)) (X : Mem) (x0 : Nat) (x1 : Int32) : Option (Mem) :=
  (if mK X x0 = some (5, 0) then (Option.bind (mR X 501 x0) fun a7_2 => (Option.bind (alen X a7_2) fun n7_2 => (if (nI n7_2) ≤ x1 then (some X) else (Option.bind (mR X 502 x0) fun a16_4 => (Option.bind (alen X a16_4) fun n16_4 => (if (nI n16_4) ≤ x1 then (some X) else (Option.bind (mR X 502 x0) fun a26_6 => (if inb X 0 a26_6 x1 = true then (Option.bind (mR (sI X a26_6 x1.toNatClampNeg (-1)) 501 x0) fun a32_7 => (if inb (sI X a26_6 x1.toNatClampNeg (-1)) 3 a32_7 x1 = true then (if (aR (sI X a26_6 x1.toNatClampNeg (-1)) a32_7 x1.toNatClampNeg) = none then (fX5_pairBlocks_L80 fu rec2 (sI X a26_6 x1.toNatClampNeg (-1)) x0 x1) else (Option.bind (aR (sI X a26_6 x1.toNatClampNeg (-1)) a32_7 x1.toNatClampNeg) fun a39_8 => (if mK (sI X a26_6 x1.toNatClampNeg (-1)) a39_8 = some (4, 0) then (if (mI (sI X a26_6 x1.toNatClampNeg (-1)) 400 a39_8) = (8 : Int32) then (Option.bind (fX5_lastOpenAhead fu (sI X a26_6 x1.toNatClampNeg (-1)) x0 x1) fun v49 => (if v49 < 0 then (fX5_pairBlocks_L80 fu rec2 (sI X a26_6 x1.toNatClampNeg (-1)) x0 x1) else (Option.bind (mR (sI X a26_6 x1.toNatClampNeg (-1)) 502 x0) fun a62_10 => (Option.bind (alen (sI X a26_6 x1.toNatClampNeg (-1)) a62_10) fun n62_10 => (if (nI n62_10) ≤ v49 then (fX5_pairBlocks_L80 fu rec2 (sI X a26_6 x1.toNatClampNeg (-1)) x0 x1) else (Option.bind (mR (sI X a26_6 x1.toNatClampNeg (-1)) 502 x0) fun a72_12 => (if inb (sI X a26_6 x1.toNatClampNeg (-1)) 0 a72_12 v49 = true then (Option.bind (mR (sI (sI X a26_6 x1.toNatClampNeg (-1)) a72_12 v49.toNatClampNeg x1) 502 x0) fun a79_13 => (if inb (sI (sI X a26_6 x1.toNatClampNeg (-1)) a72_12 v49.toNatClampNeg x1) 0 a79_13 x1 = true then (fX5_pairBlocks_L80 fu rec2 (sI (sI (sI X a26_6 x1.toNatClampNeg (-1)) a72_12 v49.toNatClampNeg x1) a79_13 x1.toNatClampNeg v49) x0 x1) else none)) else none))))))) else (fX5_pairBlocks_L80 fu rec2 (sI X a26_6 x1.toNatClampNeg (-1)) x0 x1)) else none))) else none)) else none)))))))) else none)
def fX5_pairBlocks_L2 (fu : Nat)  : Nat → Mem → Nat → Int32 → Option (Mem)
  | 0 => fun _ _ _ => none
  | n + 1 => fun X x0 x1 => fX5_pairBlocks_L2b fu (fX5_pairBlocks_L2 fu n) X x0 x1
def fX5_pairBlocks (fu : Nat)  (X : Mem) (x0 : Nat) : Option (Mem) :=
  (fX5_pairBlocks_L2 fu fu X x0 (0 : Int32))
def rmX5_findWords : Room := { frames := 0, cells := 0, slots := 0, locals := 0 }
def fX5_findWords_L60 (fu : Nat) (rec2 : Mem → Nat → Int32 → Option (Mem)) (X : Mem) (x0 : Nat) (x1 : Int32) : Option (Mem) :=
  (rec2 X x0 (x1 + (1 : Int32)))
def fX5_findWords_L2b (fu : Nat) (rec2 : Mem → Nat → Int32 → Option (Mem)) (X : Mem) (x0 : Nat) (x1 : Int32) : Option (Mem) :=
  (if mK X x0 = some (5, 0) then (Option.bind (mR X 501 x0) fun a7_2 => (Option.bind (alen X a7_2) fun n7_2 => (if (nI n7_2) ≤ x1 then (some X) else (Option.bind (mR X 501 x0) fun a16_4 => (if inb X 3 a16_4 x1 = true then (if (aR X a16_4 x1.toNatClampNeg) = none then (fX5_findWords_L60 fu rec2 X x0 x1) else (Option.bind (aR X a16_4 x1.toNatClampNeg) fun a23_5 => (if mK X a23_5 = some (4, 0) then (if (mI X 400 a23_5) = (6 : Int32) then (if (mI X 401 a23_5) < 0 then (fX5_findWords_L60 fu rec2 X x0 x1) else (Option.bind (mR X 503 x0) fun a46_7 => (Option.bind (alen X a46_7) fun n46_7 => (if (nI n46_7) ≤ (mI X 401 a23_5) then (fX5_findWords_L60 fu rec2 X x0 x1) else (Option.bind (mR X 503 x0) fun a59_9 => (if inb X 0 a59_9 (mI X 401 a23_5) = true then (fX5_findWords_L60 fu rec2 (sI X a59_9 (mI X 401 a23_5).toNatClampNeg x1) x0 x1) else none)))))) else (fX5_findWords_L60 fu rec2 X x0 x1)) else none))) else none))))) else none)
def fX5_findWords_L2 (fu : Nat)  : Nat → Mem → Nat → Int32 → Option (Mem)
  | 0 => fun _ _ _ => none
  | n + 1 => fun X x0 x1 => fX5_findWords_L2b fu (fX5_findWords_L2 fu n) X x0 x1
def fX5_findWords (fu : Nat)  (X : Mem) (x0 : Nat) : Option (Mem) :=
  (fX5_findWords_L2 fu fu X x0 (0 : Int32))
def rmX6_init : Room := { frames := 1, cells := 1, slots := 4, locals := 20 }
def fX6_init_L13b (fu : Nat) (rec13 : Mem → Nat → Int32 → Option (Mem)) (X : Mem) (x0 : Nat) (x1 : Int32) : Option (Mem) :=
  (if mK X x0 = some (6, 0) then (Option.bind (mR X 600 x0) fun a18_2 => (Option.bind (alen X a18_2) fun n18_2 => (if (nI n18_2) ≤ x1 then (some X) else (Option.bind (mR X 600 x0) fun a28_4 => (if inb X 0 a28_4 x1 = true then (rec13 (sI X a28_4 x1.toNatClampNeg (-1)) x0 (x1 + (1 : Int32))) else none))))) else none)
def fX6_init_L13 (fu : Nat)  : Nat → Mem → Nat → Int32 → Option (Mem)
  | 0 => fun _ _ _ => none
  | n + 1 => fun X x0 x1 => fX6_init_L13b fu (fX6_init_L13 fu n) X x0 x1
def fX6_init (fu : Nat)  (X : Mem) (x0 : Nat) : Option (Mem) :=
  (Option.bind (some (mZ X)) fun q6 => (Option.bind (some (nA X 0 4)) fun X6 => (if mK X6 x0 = some (6, 0) then (fX6_init_L13 fu fu (wR X6 600 x0 (some q6)) x0 (0 : Int32)) else none)))
def rmX6_numberOf : Room := { frames := 0, cells := 0, slots := 0, locals := 0 }
def fX6_numberOf  (X : Mem) (x0 : Nat) (x1 : Int32) : Option (Int32 × Mem) :=
  (if x1 < 0 then (some ((-1), X)) else (if mK X x0 = some (6, 0) then (Option.bind (mR X 600 x0) fun a9_2 => (Option.bind (alen X a9_2) fun n9_2 => (if x1 < (nI n9_2) then (Option.bind (mR X 600 x0) fun a20_4 => (if inb X 0 a20_4 x1 = true then (if (aI X a20_4 x1.toNatClampNeg) = (-1) then (Option.bind (mR X 600 x0) fun a34_6 => (if inb X 0 a34_6 x1 = true then (Option.bind (mR (wI (sI X a34_6 x1.toNatClampNeg (mI X 601 x0)) 601 x0 ((mI (sI X a34_6 x1.toNatClampNeg (mI X 601 x0)) 601 x0) + (1 : Int32))) 600 x0) fun a50_7 => (if inb (wI (sI X a34_6 x1.toNatClampNeg (mI X 601 x0)) 601 x0 ((mI (sI X a34_6 x1.toNatClampNeg (mI X 601 x0)) 601 x0) + (1 : Int32))) 0 a50_7 x1 = true then (some ((aI (wI (sI X a34_6 x1.toNatClampNeg (mI X 601 x0)) 601 x0 ((mI (sI X a34_6 x1.toNatClampNeg (mI X 601 x0)) 601 x0) + (1 : Int32))) a50_7 x1.toNatClampNeg), (wI (sI X a34_6 x1.toNatClampNeg (mI X 601 x0)) 601 x0 ((mI (sI X a34_6 x1.toNatClampNeg (mI X 601 x0)) 601 x0) + (1 : Int32))))) else none)) else none)) else (Option.bind (mR X 600 x0) fun a50_5 => (if inb X 0 a50_5 x1 = true then (some ((aI X a50_5 x1.toNatClampNeg), X)) else none))) else none)) else (some ((-1), X))))) else none))
def rmX5_codeOf : Room := { frames := 0, cells := 0, slots := 0, locals := 0 }
def fX5_codeOf_L22 (X0 : Mem)  (x2 : Int32) (s0 : Int32) (s1 : Int32) : Option (Int32) :=
  (some (((s0 ||| s1) <<< ((8 : Int32) &&& 31)) ||| (x2 + (99 : Int32))))
def fX5_codeOf (X0 : Mem)  (x0 : Option Nat) (x1 : Int32) (x2 : Int32) : Option (Int32) :=
  (Option.bind x0 fun a1_1 => (if mK X0 a1_1 = some (4, 0) then (if (mI X0 403 a1_1) = 0 then (fX5_codeOf_L22 X0 x2 (((mI X0 400 a1_1) <<< ((4 : Int32) &&& 31)) ||| (x1 <<< ((1 : Int32) &&& 31))) (0 : Int32)) else (fX5_codeOf_L22 X0 x2 (((mI X0 400 a1_1) <<< ((4 : Int32) &&& 31)) ||| (x1 <<< ((1 : Int32) &&& 31))) (1 : Int32))) else none))
def rmX5_buildForm : Room := { frames := 2, cells := 4, slots := 12, locals := 41 }
def fX5_buildForm_L157 (fu : Nat) (rec18 : Mem → Nat → Nat → Nat → Int32 → Option (Mem)) (X : Mem) (x0 : Nat) (x1 : Nat) (x2 : Nat) (x3 : Int32) : Option (Mem) :=
  (rec18 X x0 x1 x2 (x3 + (1 : Int32)))
def fX5_buildForm_L140 (fu : Nat) (rec18 : Mem → Nat → Nat → Nat → Int32 → Option (Mem)) (X : Mem) (x0 : Nat) (x1 : Nat) (x2 : Nat) (x3 : Int32) (x4 : Nat) (x5 : Int32) (s0 : Int32) : Option (Mem) :=
  (if mK X x0 = some (5, 0) then (Option.bind (fX5_codeOf X (some x4) x5 s0) fun v153 => (Option.bind (mR X 504 x0) fun a156_2 => (if inb X 0 a156_2 x3 = true then (fX5_buildForm_L157 fu rec18 (sI X a156_2 x3.toNatClampNeg v153) x0 x1 x2 x3) else none))) else none)
def fX5_buildForm_L115 (fu : Nat) (rec18 : Mem → Nat → Nat → Nat → Int32 → Option (Mem)) (X : Mem) (x0 : Nat) (x1 : Nat) (x2 : Nat) (x3 : Int32) (x4 : Nat) (x5 : Int32) : Option (Mem) :=
  (if mK X x4 = some (4, 0) then (if (mI X 403 x4) = 0 then (fX5_buildForm_L140 fu rec18 X x0 x1 x2 x3 x4 x5 (mI X 402 x4)) else (if mK X x1 = some (6, 0) then (bW (fX6_numberOf X x1 (mI X 402 x4)) fun v129 X129 => (fX5_buildForm_L140 fu rec18 X129 x0 x1 x2 x3 x4 x5 v129)) else none)) else none)
def fX5_buildForm_L70 (fu : Nat) (rec18 : Mem → Nat → Nat → Nat → Int32 → Option (Mem)) (X : Mem) (x0 : Nat) (x1 : Nat) (x2 : Nat) (x3 : Int32) (x4 : Nat) : Option (Mem) :=
  (if mK X x4 = some (4, 0) then (if mK X x1 = some (6, 0) then (bW (fX6_numberOf X x1 (mI X 401 x4)) fun v76 X76 => (fX5_buildForm_L115 fu rec18 X76 x0 x1 x2 x3 x4 v76)) else none) else none)
def fX5_buildForm_L104 (fu : Nat) (rec18 : Mem → Nat → Nat → Nat → Int32 → Option (Mem)) (X : Mem) (x0 : Nat) (x1 : Nat) (x2 : Nat) (x3 : Int32) (x4 : Nat) : Option (Mem) :=
  (if mK X x4 = some (4, 0) then (if mK X x2 = some (6, 0) then (bW (fX6_numberOf X x2 (mI X 401 x4)) fun v110 X110 => (fX5_buildForm_L115 fu rec18 X110 x0 x1 x2 x3 x4 v110)) else none) else none)
def fX5_buildForm_L18b (fu : Nat) (rec18 : Mem → Nat → Nat → Nat → Int32 → Option (Mem)) (X : Mem) (x0 : Nat) (x1 : Nat) (x2 : Nat) (x3 : Int32) : Option (Mem) :=
  (if mK X x0 = some (5, 0) then (Option.bind (mR X 501 x0) fun a23_2 => (Option.bind (alen X a23_2) fun n23_2 => (if (nI n23_2) ≤ x3 then (some X) else (Option.bind (mR X 504 x0) fun a32_4 => (Option.bind (alen X a32_4) fun n32_4 => (if (nI n32_4) ≤ x3 then (some X) else (Option.bind (mR X 501 x0) fun a41_6 => (if inb X 3 a41_6 x3 = true then (if (aR X a41_6 x3.toNatClampNeg) = none then (fX5_buildForm_L157 fu rec18 X x0 x1 x2 x3) else (Option.bind (aR X a41_6 x3.toNatClampNeg) fun a54_7 => (if mK X a54_7 = some (4, 0) then (if (mI X 400 a54_7) = (3 : Int32) then (fX5_buildForm_L70 fu rec18 X x0 x1 x2 x3 a54_7) else (if (mI X 400 a54_7) = (4 : Int32) then (fX5_buildForm_L70 fu rec18 X x0 x1 x2 x3 a54_7) else (if (mI X 400 a54_7) = (6 : Int32) then (fX5_buildForm_L104 fu rec18 X x0 x1 x2 x3 a54_7) else (if (mI X 400 a54_7) = (7 : Int32) then (fX5_buildForm_L104 fu rec18 X x0 x1 x2 x3 a54_7) else (fX5_buildForm_L115 fu rec18 X x0 x1 x2 x3 a54_7 (0 : Int32)))))) else none))) else none)))))))) else none)
def fX5_buildForm_L18 (fu : Nat)  : Nat → Mem → Nat → Nat → Nat → Int32 → Option (Mem)
  | 0 => fun _ _ _ _ _ => none
  | n + 1 => fun X x0 x1 x2 x3 => fX5_buildForm_L18b fu (fX5_buildForm_L18 fu n) X x0 x1 x2 x3
def fX5_buildForm (fu : Nat)  (X : Mem) (x0 : Nat) : Option (Mem) :=
  (Option.bind (some (mZ X)) fun q0 => (Option.bind (some (nO X 6)) fun X0 => (Option.bind (fX6_init fu X0 q0) fun X4 => (Option.bind (some (mZ X4)) fun q8 => (Option.bind (some (nO X4 6)) fun X8 => (Option.bind (fX6_init fu X8 q8) fun X12 => (fX5_buildForm_L18 fu fu X12 x0 q0 q8 (0 : Int32))))))))
def rmX5_init : Room := { frames := 3, cells := 11, slots := 151, locals := 67 }
def fX5_init_L95b (fu : Nat) (rec95 : Mem → Nat → Nat → Int32 → Option (Mem)) (X : Mem) (x0 : Nat) (x2 : Nat) (x4 : Int32) : Option (Mem) :=
  (if mK X x0 = some (5, 0) then (Option.bind (mR X 501 x0) fun a101_2 => (Option.bind (alen X a101_2) fun n101_2 => (if (nI n101_2) ≤ x4 then (Option.bind (fX5_pairBlocks fu X x0) fun X125 => (if mK X125 x0 = some (5, 0) then (Option.bind (fX5_findWords fu X125 x0) fun X129 => (if mK X129 x0 = some (5, 0) then (Option.bind (fX5_buildForm fu X129 x0) fun X133 => (some X133)) else none)) else none)) else (if mK X x2 = some (1, 0) then (Option.bind (fX1_orderAt X x2 x4) fun v114 => (Option.bind (mR X 501 x0) fun a117_7 => (if inb X 3 a117_7 x4 = true then (Option.bind v114 fun a117_8 => (if mK X a117_8 = some (4, 0) then (rec95 (sR X a117_7 x4.toNatClampNeg (some a117_8)) x0 x2 (x4 + (1 : Int32))) else none)) else none))) else none)))) else none)
def fX5_init_L95 (fu : Nat)  : Nat → Mem → Nat → Nat → Int32 → Option (Mem)
  | 0 => fun _ _ _ _ => none
  | n + 1 => fun X x0 x2 x4 => fX5_init_L95b fu (fX5_init_L95 fu n) X x0 x2 x4
def fX5_init_L68b (fu : Nat) (rec68 : Mem → Nat → Nat → Int32 → Option (Mem)) (X : Mem) (x0 : Nat) (x2 : Nat) (x4 : Int32) : Option (Mem) :=
  (if mK X x0 = some (5, 0) then (Option.bind (mR X 503 x0) fun a74_2 => (Option.bind (alen X a74_2) fun n74_2 => (if (nI n74_2) ≤ x4 then (fX5_init_L95 fu fu X x0 x2 (0 : Int32)) else (Option.bind (mR X 503 x0) fun a85_4 => (if inb X 0 a85_4 x4 = true then (rec68 (sI X a85_4 x4.toNatClampNeg (-1)) x0 x2 (x4 + (1 : Int32))) else none))))) else none)
def fX5_init_L68 (fu : Nat)  : Nat → Mem → Nat → Nat → Int32 → Option (Mem)
  | 0 => fun _ _ _ _ => none
  | n + 1 => fun X x0 x2 x4 => fX5_init_L68b fu (fX5_init_L68 fu n) X x0 x2 x4
def fX5_init_L19 (fu : Nat)  (X : Mem) (x0 : Nat) (x1 : Int32) (x2 : Nat) (s0 : Int32) : Option (Mem) :=
  (if mK X x0 = some (5, 0) then (if 0 ≤ s0 ∧ s0.toNatClampNeg ≤ 32 then (Option.bind (some (mZ (wI X 500 x0 x1))) fun q27 => (Option.bind (some (nA (wI X 500 x0 x1) 3 s0.toNatClampNeg)) fun X27 => (if mK X27 x0 = some (5, 0) then (if 0 ≤ s0 ∧ s0.toNatClampNeg ≤ 32 then (Option.bind (some (mZ (wR X27 501 x0 (some q27)))) fun q35 => (Option.bind (some (nA (wR X27 501 x0 (some q27)) 0 s0.toNatClampNeg)) fun X35 => (if mK X35 x0 = some (5, 0) then (if 0 ≤ s0 ∧ s0.toNatClampNeg ≤ 32 then (Option.bind (some (mZ (wR X35 502 x0 (some q35)))) fun q42 => (Option.bind (some (nA (wR X35 502 x0 (some q35)) 0 s0.toNatClampNeg)) fun X42 => (if mK X42 x0 = some (5, 0) then (Option.bind (some (mZ (wR X42 504 x0 (some q42)))) fun q49 => (Option.bind (some (nA (wR X42 504 x0 (some q42)) 0 4)) fun X49 => (if mK X49 x0 = some (5, 0) then (Option.bind (some (mZ (wR X49 503 x0 (some q49)))) fun q55 => (Option.bind (some (nO (wR X49 503 x0 (some q49)) 2)) fun X55 => (Option.bind (fX2_init X55 q55) fun X59 => (if mK X59 x0 = some (5, 0) then (fX5_init_L68 fu fu (wR X59 505 x0 (some q55)) x0 x2 (0 : Int32)) else none)))) else none))) else none))) else none) else none))) else none) else none))) else none) else none)
def fX5_init (fu : Nat)  (X : Mem) (x0 : Nat) (x1 : Int32) (x2 : Option Nat) : Option (Mem) :=
  (Option.bind x2 fun a5_1 => (if mK X a5_1 = some (1, 0) then (Option.bind (fX1_length X a5_1) fun v5 => (if v5 ≤ 0 then (fX5_init_L19 fu X x0 x1 a5_1 (0 : Int32)) else (Option.bind (fX1_length X a5_1) fun v12 => (fX5_init_L19 fu X x0 x1 a5_1 v12)))) else none))
def rmX8_begin : Room := { frames := 0, cells := 0, slots := 0, locals := 0 }
def fX8_begin  (X : Mem) (x0 : Nat) : Option (Mem) :=
  (if mK X x0 = some (8, 0) then (some (wI (wI (wI (wI X 800 x0 (8 : Int32)) 801 x0 (8 : Int32)) 802 x0 (0 : Int32)) 803 x0 (1 : Int32))) else none)
def rmX5_length : Room := { frames := 0, cells := 0, slots := 0, locals := 0 }
def fX5_length (X0 : Mem)  (x0 : Nat) : Option (Int32) :=
  (if mK X0 x0 = some (5, 0) then (Option.bind (mR X0 501 x0) fun a4_2 => (Option.bind (alen X0 a4_2) fun n4_2 => (some (nI n4_2)))) else none)
def rmX7_leaveWord : Room := { frames := 0, cells := 0, slots := 0, locals := 0 }
def fX7_leaveWord  (X : Mem) (x0 : Nat) : Option (Int32 × Mem) :=
  (if mK X x0 = some (7, 0) then (if ((mI X 705 x0) - (1 : Int32)) < 0 then (some ((-1), X)) else (Option.bind (mR X 703 x0) fun a16_2 => (Option.bind (alen X a16_2) fun n16_2 => (if ((mI X 705 x0) - (1 : Int32)) < (nI n16_2) then (Option.bind (mR (wI X 705 x0 ((mI X 705 x0) - (1 : Int32))) 703 x0) fun a32_4 => (if inb (wI X 705 x0 ((mI X 705 x0) - (1 : Int32))) 0 a32_4 ((mI X 705 x0) - (1 : Int32)) = true then (some (((aI (wI X 705 x0 ((mI X 705 x0) - (1 : Int32))) a32_4 ((mI X 705 x0) - (1 : Int32)).toNatClampNeg) + (1 : Int32)), (wI X 705 x0 ((mI X 705 x0) - (1 : Int32))))) else none)) else (some ((-1), X)))))) else none)
def rmX7_closeBlock : Room := { frames := 1, cells := 0, slots := 0, locals := 21 }
def fX7_closeBlock_L33  (X : Mem) (x0 : Nat) (x2 : Int32) (x3 : Int32) : Option (Int32 × Mem) :=
  (if mK X x0 = some (7, 0) then (if (((mI X 705 x0) * (30 : Int32)) + x3) < 0 then (some ((-1), X)) else (Option.bind (mR X 702 x0) fun a55_2 => (Option.bind (alen X a55_2) fun n55_2 => (if (((mI X 705 x0) * (30 : Int32)) + x3) < (nI n55_2) then (Option.bind (mR X 702 x0) fun a68_4 => (if inb X 0 a68_4 (((mI X 705 x0) * (30 : Int32)) + x3) = true then (if inb X 0 a68_4 (((mI X 705 x0) * (30 : Int32)) + x3) = true then (Option.bind (mR (sI X a68_4 (((mI X 705 x0) * (30 : Int32)) + x3).toNatClampNeg ((aI X a68_4 (((mI X 705 x0) * (30 : Int32)) + x3).toNatClampNeg) - (1 : Int32))) 702 x0) fun a78_5 => (if inb (sI X a68_4 (((mI X 705 x0) * (30 : Int32)) + x3).toNatClampNeg ((aI X a68_4 (((mI X 705 x0) * (30 : Int32)) + x3).toNatClampNeg) - (1 : Int32))) 0 a78_5 (((mI X 705 x0) * (30 : Int32)) + x3) = true then (if (aI (sI X a68_4 (((mI X 705 x0) * (30 : Int32)) + x3).toNatClampNeg ((aI X a68_4 (((mI X 705 x0) * (30 : Int32)) + x3).toNatClampNeg) - (1 : Int32))) a78_5 (((mI X 705 x0) * (30 : Int32)) + x3).toNatClampNeg) ≤ 0 then (some ((x2 + (1 : Int32)), (sI X a68_4 (((mI X 705 x0) * (30 : Int32)) + x3).toNatClampNeg ((aI X a68_4 (((mI X 705 x0) * (30 : Int32)) + x3).toNatClampNeg) - (1 : Int32))))) else (some ((x3 + (1 : Int32)), (sI X a68_4 (((mI X 705 x0) * (30 : Int32)) + x3).toNatClampNeg ((aI X a68_4 (((mI X 705 x0) * (30 : Int32)) + x3).toNatClampNeg) - (1 : Int32)))))) else none)) else none) else none)) else (some ((-1), X)))))) else none)
def fX7_closeBlock  (X : Mem) (x0 : Nat) (x1 : Option Nat) (x2 : Int32) : Option (Int32 × Mem) :=
  (Option.bind x1 fun a2_1 => (if mK X a2_1 = some (5, 0) then (Option.bind (fX5_partnerOf X a2_1 x2) fun v2 => (Option.bind (fX5_orderAt X a2_1 v2) fun v8 => (if v8 = none then (fX7_closeBlock_L33 X x0 x2 v2) else (Option.bind v8 fun a20_3 => (if mK X a20_3 = some (4, 0) then (if (mI X 400 a20_3) = (6 : Int32) then (if mK X x0 = some (7, 0) then (bW (fX7_leaveWord X x0) fun v29 X29 => (some (v29, X29))) else none) else (fX7_closeBlock_L33 X x0 x2 v2)) else none))))) else none))
def rmX7_canCount : Room := { frames := 0, cells := 0, slots := 0, locals := 0 }
def fX7_canCount  (X : Mem) (x0 : Nat) : Option (Int32 × Mem) :=
  (if mK X x0 = some (7, 0) then (if (mI X 707 x0) < (mI X 706 x0) then (some ((1 : Int32), X)) else (some ((0 : Int32), (wI X 708 x0 (1 : Int32))))) else none)
def rmX7_nameAt : Room := { frames := 0, cells := 0, slots := 0, locals := 0 }
def fX7_nameAt (X0 : Mem)  (x0 : Nat) (x1 : Int32) : Option (Int32) :=
  (if x1 < 0 then (some (0 : Int32)) else (if mK X0 x0 = some (7, 0) then (Option.bind (mR X0 701 x0) fun a9_2 => (Option.bind (alen X0 a9_2) fun n9_2 => (if (nI n9_2) ≤ x1 then (some (0 : Int32)) else (Option.bind (mR X0 701 x0) fun a18_4 => (if inb X0 0 a18_4 x1 = true then (some (aI X0 a18_4 x1.toNatClampNeg)) else none))))) else none))
def rmX7_valueOf : Room := { frames := 1, cells := 0, slots := 0, locals := 21 }
def fX7_valueOf (X0 : Mem)  (x0 : Nat) (x1 : Option Nat) : Option (Int32) :=
  (Option.bind x1 fun a1_1 => (if mK X0 a1_1 = some (4, 0) then (if (mI X0 403 a1_1) = 0 then (some (mI X0 402 a1_1)) else (if mK X0 x0 = some (7, 0) then (Option.bind (fX7_nameAt X0 x0 (mI X0 402 a1_1)) fun v12 => (some v12)) else none)) else none))
def rmX8_aheadX : Room := { frames := 0, cells := 0, slots := 0, locals := 0 }
def fX8_aheadX (X0 : Mem)  (x0 : Nat) : Option (Int32) :=
  (if mK X0 x0 = some (8, 0) then (if (mI X0 802 x0) = (1 : Int32) then (some (1 : Int32)) else (if (mI X0 802 x0) = (3 : Int32) then (some (-1)) else (some (0 : Int32)))) else none)
def rmX11_isOnGround : Room := { frames := 0, cells := 0, slots := 0, locals := 0 }
def fX11_isOnGround (X0 : Mem)  (x0 : Int32) : Option (Int32) :=
  (if x0 < 0 then (some (0 : Int32)) else (if (16 : Int32) ≤ x0 then (some (0 : Int32)) else (some (1 : Int32))))
def rmX8_aheadY : Room := { frames := 0, cells := 0, slots := 0, locals := 0 }
def fX8_aheadY (X0 : Mem)  (x0 : Nat) : Option (Int32) :=
  (if mK X0 x0 = some (8, 0) then (if (mI X0 802 x0) = 0 then (some (1 : Int32)) else (if (mI X0 802 x0) = (2 : Int32) then (some (-1)) else (some (0 : Int32)))) else none)
def rmX8_canGo : Room := { frames := 1, cells := 0, slots := 0, locals := 20 }
def fX8_canGo (X0 : Mem)  (x0 : Nat) : Option (Int32) :=
  (if mK X0 x0 = some (8, 0) then (Option.bind (fX8_aheadX X0 x0) fun v5 => (Option.bind (fX11_isOnGround X0 ((mI X0 800 x0) + v5)) fun v9 => (if v9 = 0 then (some (0 : Int32)) else (Option.bind (fX8_aheadY X0 x0) fun v20 => (Option.bind (fX11_isOnGround X0 ((mI X0 801 x0) + v20)) fun v24 => (if v24 = 0 then (some (0 : Int32)) else (some (1 : Int32)))))))) else none)
def rmJ9_min_7cf53 : Room := { frames := 0, cells := 0, slots := 0, locals := 0 }
def fJ9_min_7cf53 (X0 : Mem)  (x0 : Int32) (x1 : Int32) : Option (Int32) :=
  (if x1 < x0 then (some x1) else (some x0))
def rmX2_takeIn : Room := { frames := 0, cells := 0, slots := 0, locals := 0 }
def fX2_takeIn_L113  (X : Mem) (s0 : Nat) (s1 : Int32) : Option (Mem) :=
  (if mK X s0 = some (2, 0) then (some (wI X 206 s0 s1)) else none)
def fX2_takeIn_L104  (X : Mem) (x4 : Int32) (s0 : Nat) : Option (Mem) :=
  (fX2_takeIn_L113 X s0 x4)
def fX2_takeIn_L86  (X : Mem) (x0 : Nat) (x4 : Int32) (x5 : Int32) (s0 : Nat) (s1 : Int32) : Option (Mem) :=
  (if mK X s0 = some (2, 0) then (if x5 = 0 then (if mK (wI X 205 s0 s1) x0 = some (2, 0) then (if x4 ≤ (mI (wI X 205 s0 s1) 206 x0) then (fX2_takeIn_L113 (wI X 205 s0 s1) x0 (mI (wI X 205 s0 s1) 206 x0)) else (fX2_takeIn_L104 (wI X 205 s0 s1) x4 x0)) else none) else (fX2_takeIn_L104 (wI X 205 s0 s1) x4 x0)) else none)
def fX2_takeIn_L78  (X : Mem) (x0 : Nat) (x3 : Int32) (x4 : Int32) (x5 : Int32) (s0 : Nat) : Option (Mem) :=
  (fX2_takeIn_L86 X x0 x4 x5 s0 x3)
def fX2_takeIn_L61  (X : Mem) (x0 : Nat) (x3 : Int32) (x4 : Int32) (x5 : Int32) (s0 : Nat) (s1 : Int32) : Option (Mem) :=
  (if mK X s0 = some (2, 0) then (if x5 = 0 then (if mK (wI X 204 s0 s1) x0 = some (2, 0) then (if x3 ≤ (mI (wI X 204 s0 s1) 205 x0) then (fX2_takeIn_L86 (wI X 204 s0 s1) x0 x4 x5 x0 (mI (wI X 204 s0 s1) 205 x0)) else (fX2_takeIn_L78 (wI X 204 s0 s1) x0 x3 x4 x5 x0)) else none) else (fX2_takeIn_L78 (wI X 204 s0 s1) x0 x3 x4 x5 x0)) else none)
def fX2_takeIn_L53  (X : Mem) (x0 : Nat) (x2 : Int32) (x3 : Int32) (x4 : Int32) (x5 : Int32) (s0 : Nat) : Option (Mem) :=
  (fX2_takeIn_L61 X x0 x3 x4 x5 s0 x2)
def fX2_takeIn_L36  (X : Mem) (x0 : Nat) (x2 : Int32) (x3 : Int32) (x4 : Int32) (x5 : Int32) (s0 : Nat) (s1 : Int32) : Option (Mem) :=
  (if mK X s0 = some (2, 0) then (if x5 = 0 then (if mK (wI X 203 s0 s1) x0 = some (2, 0) then (if (mI (wI X 203 s0 s1) 204 x0) ≤ x2 then (fX2_takeIn_L61 (wI X 203 s0 s1) x0 x3 x4 x5 x0 (mI (wI X 203 s0 s1) 204 x0)) else (fX2_takeIn_L53 (wI X 203 s0 s1) x0 x2 x3 x4 x5 x0)) else none) else (fX2_takeIn_L53 (wI X 203 s0 s1) x0 x2 x3 x4 x5 x0)) else none)
def fX2_takeIn_L28  (X : Mem) (x0 : Nat) (x1 : Int32) (x2 : Int32) (x3 : Int32) (x4 : Int32) (x5 : Int32) (s0 : Nat) : Option (Mem) :=
  (fX2_takeIn_L36 X x0 x2 x3 x4 x5 s0 x1)
def fX2_takeIn_L12  (X : Mem) (x0 : Nat) (x1 : Int32) (x2 : Int32) (x3 : Int32) (x4 : Int32) (s0 : Int32) : Option (Mem) :=
  (if s0 = 0 then (if mK X x0 = some (2, 0) then (if (mI X 203 x0) ≤ x1 then (fX2_takeIn_L36 X x0 x2 x3 x4 s0 x0 (mI X 203 x0)) else (fX2_takeIn_L28 X x0 x1 x2 x3 x4 s0 x0)) else none) else (fX2_takeIn_L28 X x0 x1 x2 x3 x4 s0 x0))
def fX2_takeIn  (X : Mem) (x0 : Nat) (x1 : Int32) (x2 : Int32) (x3 : Int32) (x4 : Int32) : Option (Mem) :=
  (if mK X x0 = some (2, 0) then (if (mI X 202 x0) = 0 then (fX2_takeIn_L12 X x0 x1 x2 x3 x4 (1 : Int32)) else (fX2_takeIn_L12 X x0 x1 x2 x3 x4 (0 : Int32))) else none)
def rmX2_draw : Room := { frames := 1, cells := 0, slots := 0, locals := 25 }
def fX2_draw_L83  (X : Mem) (x0 : Nat) (s0 : Nat) (s1 : Int32) (s2 : Int32) (s3 : Int32) (s4 : Int32) : Option (Mem) :=
  (if mK X s0 = some (2, 0) then (Option.bind (fX2_takeIn X s0 s1 s2 s3 s4) fun X83 => (if mK X83 x0 = some (2, 0) then (some (wI X83 202 x0 ((mI X83 202 x0) + (1 : Int32)))) else none)) else none)
def fX2_draw_L72  (X : Mem) (x0 : Nat) (x2 : Int32) (x3 : Int32) (s0 : Nat) (s1 : Int32) (s2 : Int32) (s3 : Int32) : Option (Mem) :=
  (if x3 = 0 then (fX2_draw_L83 X x0 s0 s1 s2 s3 x2) else (fX2_draw_L83 X x0 s0 s1 s2 s3 (x2 + (1 : Int32))))
def fX2_draw_L15  (X : Mem) (x0 : Nat) (x1 : Int32) (x2 : Int32) (x3 : Int32) (s0 : Option Nat) : Option (Mem) :=
  (Option.bind (fX11_isOnGround X x1) fun v18 => (if v18 = 0 then (some X) else (if x2 < 0 then (some X) else (Option.bind s0 fun a31_1 => (Option.bind (alen X a31_1) fun n31_1 => (if (nI n31_1) ≤ x2 then (some X) else (if inb X 0 a31_1 x2 = true then (if (((aI X a31_1 x2.toNatClampNeg) >>> (x1 &&& 31)) &&& (1 : Int32)) = (1 : Int32) then (some X) else (if inb X 0 a31_1 x2 = true then (if inb X 0 a31_1 x2 = true then (if x3 = 0 then (fX2_draw_L72 (sI X a31_1 x2.toNatClampNeg ((aI X a31_1 x2.toNatClampNeg) ||| ((1 : Int32) <<< (x1 &&& 31)))) x0 x2 x3 x0 x1 x2 (x1 + (1 : Int32))) else (fX2_draw_L72 (sI X a31_1 x2.toNatClampNeg ((aI X a31_1 x2.toNatClampNeg) ||| ((1 : Int32) <<< (x1 &&& 31)))) x0 x2 x3 x0 x1 x2 x1)) else none) else none)) else none)))))))
def fX2_draw  (X : Mem) (x0 : Nat) (x1 : Int32) (x2 : Int32) (x3 : Int32) : Option (Mem) :=
  (if x3 = 0 then (if mK X x0 = some (2, 0) then (fX2_draw_L15 X x0 x1 x2 x3 (mR X 200 x0)) else none) else (if mK X x0 = some (2, 0) then (fX2_draw_L15 X x0 x1 x2 x3 (mR X 201 x0)) else none))
def rmX8_go : Room := { frames := 2, cells := 0, slots := 0, locals := 49 }
def fX8_go_L60  (X : Mem) (x0 : Nat) (x2 : Int32) (x3 : Int32) : Option (Mem) :=
  (if mK X x0 = some (8, 0) then (some (wI (wI X 800 x0 x2) 801 x0 x3)) else none)
def fX8_go_L57  (X : Mem) (x0 : Nat) (x2 : Int32) (x3 : Int32) (s0 : Option Nat) (s1 : Int32) (s2 : Int32) (s3 : Int32) : Option (Mem) :=
  (Option.bind s0 fun a57_1 => (if mK X a57_1 = some (2, 0) then (Option.bind (fX2_draw X a57_1 s1 s2 s3) fun X57 => (fX8_go_L60 X57 x0 x2 x3)) else none))
def fX8_go  (X : Mem) (x0 : Nat) (x1 : Option Nat) : Option (Mem) :=
  (if mK X x0 = some (8, 0) then (Option.bind (fX8_aheadX X x0) fun v5 => (Option.bind (fX8_aheadY X x0) fun v15 => (if (mI X 803 x0) = 0 then (fX8_go_L60 X x0 ((mI X 800 x0) + v5) ((mI X 801 x0) + v15)) else (Option.bind (fJ9_min_7cf53 X (mI X 800 x0) ((mI X 800 x0) + v5)) fun v33 => (Option.bind (fJ9_min_7cf53 X (mI X 801 x0) ((mI X 801 x0) + v15)) fun v41 => (if (mI X 800 x0) = ((mI X 800 x0) + v5) then (fX8_go_L57 X x0 ((mI X 800 x0) + v5) ((mI X 801 x0) + v15) x1 v33 v41 (1 : Int32)) else (fX8_go_L57 X x0 ((mI X 800 x0) + v5) ((mI X 801 x0) + v15) x1 v33 v41 (0 : Int32)))))))) else none)
def rmX7_goForward : Room := { frames := 3, cells := 0, slots := 0, locals := 72 }
def fX7_goForward_L13b (fu : Nat) (rec13 : Mem → Nat → Int32 → Int32 → Option (Int32 × Mem)) (X : Mem) (x0 : Nat) (x1 : Int32) (x2 : Int32) : Option (Int32 × Mem) :=
  (if x1 ≤ x2 then (some ((1 : Int32), X)) else (if mK X x0 = some (7, 0) then (bW (fX7_canCount X x0) fun v19 X19 => (if v19 = 0 then (some ((0 : Int32), X19)) else (if mK X19 x0 = some (7, 0) then (Option.bind (mR X19 700 x0) fun a31_3 => (if mK X19 a31_3 = some (8, 0) then (Option.bind (fX8_canGo X19 a31_3) fun v31 => (if v31 = 0 then (some ((0 : Int32), (wI X19 708 x0 (2 : Int32)))) else (Option.bind (mR (wI X19 707 x0 ((mI X19 707 x0) + (1 : Int32))) 700 x0) fun a62_5 => (if mK (wI X19 707 x0 ((mI X19 707 x0) + (1 : Int32))) a62_5 = some (8, 0) then (Option.bind (fX8_go (wI X19 707 x0 ((mI X19 707 x0) + (1 : Int32))) a62_5 (mR (wI X19 707 x0 ((mI X19 707 x0) + (1 : Int32))) 704 x0)) fun X62 => (rec13 X62 x0 x1 (x2 + (1 : Int32)))) else none)))) else none)) else none))) else none))
def fX7_goForward_L13 (fu : Nat)  : Nat → Mem → Nat → Int32 → Int32 → Option (Int32 × Mem)
  | 0 => fun _ _ _ _ => none
  | n + 1 => fun X x0 x1 x2 => fX7_goForward_L13b fu (fX7_goForward_L13 fu n) X x0 x1 x2
def fX7_goForward (fu : Nat)  (X : Mem) (x0 : Nat) (x1 : Int32) : Option (Int32 × Mem) :=
  (if 0 ≤ x1 then (fX7_goForward_L13 fu fu X x0 x1 (0 : Int32)) else (if mK X x0 = some (7, 0) then (some ((0 : Int32), (wI X 708 x0 (3 : Int32)))) else none))
def rmJ9_floorMod_7cf53 : Room := { frames := 0, cells := 0, slots := 0, locals := 0 }
def fJ9_floorMod_7cf53 (X0 : Mem)  (x0 : Int32) (x1 : Int32) : Option (Int32) :=
  (if x1 = 0 then none else (if 0 ≤ (x0 ^^^ x1) then (some (x0 - x0 / x1 * x1)) else (if (x0 - x0 / x1 * x1) = 0 then (some (x0 - x0 / x1 * x1)) else (some ((x0 - x0 / x1 * x1) + x1)))))
def rmX8_turnBy : Room := { frames := 1, cells := 0, slots := 0, locals := 22 }
def fX8_turnBy  (X : Mem) (x0 : Nat) (x1 : Int32) : Option (Mem) :=
  (if mK X x0 = some (8, 0) then (Option.bind (fJ9_floorMod_7cf53 X ((mI X 802 x0) + x1) (4 : Int32)) fun v8 => (some (wI X 802 x0 v8))) else none)
def rmX8_putPen : Room := { frames := 0, cells := 0, slots := 0, locals := 0 }
def fX8_putPen  (X : Mem) (x0 : Nat) (x1 : Int32) : Option (Mem) :=
  (if mK X x0 = some (8, 0) then (if x1 = 0 ∨ x1 = 1 then (some (wI X 803 x0 x1)) else none) else none)
def rmX7_putName : Room := { frames := 0, cells := 0, slots := 0, locals := 0 }
def fX7_putName_L14  (X : Mem) (x0 : Nat) : Option (Int32 × Mem) :=
  (if mK X x0 = some (7, 0) then (some ((0 : Int32), (wI X 708 x0 (3 : Int32)))) else none)
def fX7_putName  (X : Mem) (x0 : Nat) (x1 : Int32) (x2 : Int32) : Option (Int32 × Mem) :=
  (if (999 : Int32) < x2 then (fX7_putName_L14 X x0) else (if (-999) ≤ x2 then (if x1 < 0 then (some ((1 : Int32), X)) else (if mK X x0 = some (7, 0) then (Option.bind (mR X 701 x0) fun a30_2 => (Option.bind (alen X a30_2) fun n30_2 => (if (nI n30_2) ≤ x1 then (some ((1 : Int32), X)) else (Option.bind (mR X 701 x0) fun a40_4 => (if inb X 0 a40_4 x1 = true then (some ((1 : Int32), (sI X a40_4 x1.toNatClampNeg x2))) else none))))) else none)) else (fX7_putName_L14 X x0)))
def rmX7_beginRepeat : Room := { frames := 1, cells := 0, slots := 0, locals := 21 }
def fX7_beginRepeat_L35  (X : Mem) (x0 : Nat) (x2 : Int32) (x3 : Int32) (x4 : Int32) (x5 : Int32) (s0 : Int32) : Option (Int32 × Mem) :=
  (if s0 = 0 then (if x5 < 0 then (some ((x4 + (1 : Int32)), X)) else (if mK X x0 = some (7, 0) then (Option.bind (mR X 702 x0) fun a53_2 => (Option.bind (alen X a53_2) fun n53_2 => (if x5 < (nI n53_2) then (Option.bind (mR X 702 x0) fun a69_4 => (if inb X 0 a69_4 x5 = true then (some ((x2 + (1 : Int32)), (sI X a69_4 x5.toNatClampNeg x3))) else none)) else (some ((x4 + (1 : Int32)), X))))) else none)) else (some ((x4 + (1 : Int32)), X)))
def fX7_beginRepeat_L30  (X : Mem) (x0 : Nat) (x2 : Int32) (x3 : Int32) (x4 : Int32) (x5 : Int32) : Option (Int32 × Mem) :=
  (fX7_beginRepeat_L35 X x0 x2 x3 x4 x5 (1 : Int32))
def fX7_beginRepeat  (X : Mem) (x0 : Nat) (x1 : Option Nat) (x2 : Int32) (x3 : Int32) : Option (Int32 × Mem) :=
  (Option.bind x1 fun a2_1 => (if mK X a2_1 = some (5, 0) then (Option.bind (fX5_partnerOf X a2_1 x2) fun v2 => (if mK X x0 = some (7, 0) then (if x3 ≤ 0 then (fX7_beginRepeat_L30 X x0 x2 x3 v2 (((mI X 705 x0) * (30 : Int32)) + x2)) else (if v2 = (x2 + (1 : Int32)) then (fX7_beginRepeat_L30 X x0 x2 x3 v2 (((mI X 705 x0) * (30 : Int32)) + x2)) else (fX7_beginRepeat_L35 X x0 x2 x3 v2 (((mI X 705 x0) * (30 : Int32)) + x2) (0 : Int32)))) else none)) else none))
def rmX5_startOf : Room := { frames := 0, cells := 0, slots := 0, locals := 0 }
def fX5_startOf (X0 : Mem)  (x0 : Nat) (x1 : Int32) : Option (Int32) :=
  (if x1 < 0 then (some (-1)) else (if mK X0 x0 = some (5, 0) then (Option.bind (mR X0 503 x0) fun a9_2 => (Option.bind (alen X0 a9_2) fun n9_2 => (if (nI n9_2) ≤ x1 then (some (-1)) else (Option.bind (mR X0 503 x0) fun a18_4 => (if inb X0 0 a18_4 x1 = true then (some (aI X0 a18_4 x1.toNatClampNeg)) else none))))) else none))
def rmX7_enterWord : Room := { frames := 1, cells := 0, slots := 0, locals := 21 }
def fX7_enterWord_L39  (X : Mem) (x0 : Nat) : Option (Int32 × Mem) :=
  (if mK X x0 = some (7, 0) then (some ((-1), (wI X 708 x0 (4 : Int32)))) else none)
def fX7_enterWord  (X : Mem) (x0 : Nat) (x1 : Option Nat) (x2 : Int32) (x3 : Int32) : Option (Int32 × Mem) :=
  (Option.bind x1 fun a2_1 => (if mK X a2_1 = some (5, 0) then (Option.bind (fX5_startOf X a2_1 x3) fun v2 => (if v2 = (-1) then (if mK X x0 = some (7, 0) then (some ((-1), (wI X 708 x0 (5 : Int32)))) else none) else (if mK X x0 = some (7, 0) then (if (mI X 705 x0) < 0 then (fX7_enterWord_L39 X x0) else (Option.bind (mR X 703 x0) fun a35_4 => (Option.bind (alen X a35_4) fun n35_4 => (if (mI X 705 x0) < (nI n35_4) then (Option.bind (mR X 703 x0) fun a55_6 => (if inb X 0 a55_6 (mI X 705 x0) = true then (some ((v2 + (1 : Int32)), (wI (sI X a55_6 (mI X 705 x0).toNatClampNeg x2) 705 x0 ((mI (sI X a55_6 (mI X 705 x0).toNatClampNeg x2) 705 x0) + (1 : Int32))))) else none)) else (fX7_enterWord_L39 X x0))))) else none))) else none))
def rmX7_follow : Room := { frames := 4, cells := 0, slots := 0, locals := 94 }
def fX7_follow_L165 (fu : Nat)  (X : Mem) (x2 : Int32) (s0 : Option Nat) (s1 : Int32) : Option (Int32 × Mem) :=
  (Option.bind s0 fun a165_1 => (if mK X a165_1 = some (8, 0) then (Option.bind (fX8_putPen X a165_1 s1) fun X165 => (some ((x2 + (1 : Int32)), X165))) else none))
def fX7_follow (fu : Nat)  (X : Mem) (x0 : Nat) (x1 : Option Nat) (x2 : Int32) : Option (Int32 × Mem) :=
  (Option.bind x1 fun a2_1 => (if mK X a2_1 = some (5, 0) then (Option.bind (fX5_orderAt X a2_1 x2) fun v2 => (if v2 = none then (some ((-1), X)) else (Option.bind v2 fun a13_3 => (if mK X a13_3 = some (4, 0) then (if (mI X 400 a13_3) = (6 : Int32) then (Option.bind (fX5_partnerOf X a2_1 x2) fun v23 => (some ((v23 + (1 : Int32)), X))) else (if (mI X 400 a13_3) = (8 : Int32) then (if mK X x0 = some (7, 0) then (bW (fX7_closeBlock X x0 (some a2_1) x2) fun v41 X41 => (some (v41, X41))) else none) else (if mK X x0 = some (7, 0) then (bW (fX7_canCount X x0) fun v46 X46 => (if v46 = 0 then (some ((-1), X46)) else (if mK X46 x0 = some (7, 0) then (Option.bind (fX7_valueOf (wI X46 707 x0 ((mI X46 707 x0) + (1 : Int32))) x0 (some a13_3)) fun v66 => (if mK (wI X46 707 x0 ((mI X46 707 x0) + (1 : Int32))) a13_3 = some (4, 0) then (if (mI (wI X46 707 x0 ((mI X46 707 x0) + (1 : Int32))) 400 a13_3) = (0 : Int32) then (bW (fX7_goForward fu (wI X46 707 x0 ((mI X46 707 x0) + (1 : Int32))) x0 v66) fun v123 X123 => (if v123 = 0 then (some ((-1), X123)) else (some ((x2 + (1 : Int32)), X123)))) else (if (mI (wI X46 707 x0 ((mI X46 707 x0) + (1 : Int32))) 400 a13_3) = (1 : Int32) then (Option.bind (mR (wI X46 707 x0 ((mI X46 707 x0) + (1 : Int32))) 700 x0) fun a143_8 => (if mK (wI X46 707 x0 ((mI X46 707 x0) + (1 : Int32))) a143_8 = some (8, 0) then (Option.bind (fX8_turnBy (wI X46 707 x0 ((mI X46 707 x0) + (1 : Int32))) a143_8 v66) fun X143 => (some ((x2 + (1 : Int32)), X143))) else none)) else (if (mI (wI X46 707 x0 ((mI X46 707 x0) + (1 : Int32))) 400 a13_3) = (2 : Int32) then (if v66 = (1 : Int32) then (fX7_follow_L165 fu (wI X46 707 x0 ((mI X46 707 x0) + (1 : Int32))) x2 (mR (wI X46 707 x0 ((mI X46 707 x0) + (1 : Int32))) 700 x0) (1 : Int32)) else (fX7_follow_L165 fu (wI X46 707 x0 ((mI X46 707 x0) + (1 : Int32))) x2 (mR (wI X46 707 x0 ((mI X46 707 x0) + (1 : Int32))) 700 x0) (0 : Int32))) else (if (mI (wI X46 707 x0 ((mI X46 707 x0) + (1 : Int32))) 400 a13_3) = (3 : Int32) then (bW (fX7_putName (wI X46 707 x0 ((mI X46 707 x0) + (1 : Int32))) x0 (mI (wI X46 707 x0 ((mI X46 707 x0) + (1 : Int32))) 401 a13_3) v66) fun v179 X179 => (if v179 = 0 then (some ((-1), X179)) else (some ((x2 + (1 : Int32)), X179)))) else (if (mI (wI X46 707 x0 ((mI X46 707 x0) + (1 : Int32))) 400 a13_3) = (4 : Int32) then (Option.bind (fX7_nameAt (wI X46 707 x0 ((mI X46 707 x0) + (1 : Int32))) x0 (mI (wI X46 707 x0 ((mI X46 707 x0) + (1 : Int32))) 401 a13_3)) fun v203 => (bW (fX7_putName (wI X46 707 x0 ((mI X46 707 x0) + (1 : Int32))) x0 (mI (wI X46 707 x0 ((mI X46 707 x0) + (1 : Int32))) 401 a13_3) (v203 + v66)) fun v209 X209 => (if v209 = 0 then (some ((-1), X209)) else (some ((x2 + (1 : Int32)), X209))))) else (if (mI (wI X46 707 x0 ((mI X46 707 x0) + (1 : Int32))) 400 a13_3) = (5 : Int32) then (bW (fX7_beginRepeat (wI X46 707 x0 ((mI X46 707 x0) + (1 : Int32))) x0 (some a2_1) x2 v66) fun v228 X228 => (some (v228, X228))) else (if (mI (wI X46 707 x0 ((mI X46 707 x0) + (1 : Int32))) 400 a13_3) = (6 : Int32) then (some ((-1), (wI X46 707 x0 ((mI X46 707 x0) + (1 : Int32))))) else (if (mI (wI X46 707 x0 ((mI X46 707 x0) + (1 : Int32))) 400 a13_3) = (7 : Int32) then (bW (fX7_enterWord (wI X46 707 x0 ((mI X46 707 x0) + (1 : Int32))) x0 (some a2_1) x2 (mI (wI X46 707 x0 ((mI X46 707 x0) + (1 : Int32))) 401 a13_3)) fun v239 X239 => (some (v239, X239))) else (if (mI (wI X46 707 x0 ((mI X46 707 x0) + (1 : Int32))) 400 a13_3).toInt < 0 ∨ 7 < (mI (wI X46 707 x0 ((mI X46 707 x0) + (1 : Int32))) 400 a13_3).toInt then (some ((-1), (wI X46 707 x0 ((mI X46 707 x0) + (1 : Int32))))) else none))))))))) else none)) else none))) else none))) else none)))) else none))
def rmX7_perform : Room := { frames := 5, cells := 0, slots := 0, locals := 118 }
def fX7_perform_L65b (fu : Nat) (rec65 : Mem → Nat → (Option Nat) → Int32 → Int32 → Option (Mem)) (X : Mem) (x0 : Nat) (x1 : Option Nat) (x4 : Int32) (x5 : Int32) : Option (Mem) :=
  (if (100000 : Int32) ≤ x5 then (some X) else (if x4 < 0 then (some X) else (Option.bind x1 fun a80_1 => (if mK X a80_1 = some (5, 0) then (Option.bind (fX5_length X a80_1) fun v80 => (if v80 ≤ x4 then (some X) else (if mK X x0 = some (7, 0) then (bW (fX7_follow fu X x0 (some a80_1) x4) fun v90 X90 => (rec65 X90 x0 (some a80_1) v90 (x5 + (1 : Int32)))) else none))) else none))))
def fX7_perform_L65 (fu : Nat)  : Nat → Mem → Nat → (Option Nat) → Int32 → Int32 → Option (Mem)
  | 0 => fun _ _ _ _ _ => none
  | n + 1 => fun X x0 x1 x4 x5 => fX7_perform_L65b fu (fX7_perform_L65 fu n) X x0 x1 x4 x5
def fX7_perform_L35b (fu : Nat) (rec35 : Mem → Nat → (Option Nat) → Int32 → Option (Mem)) (X : Mem) (x0 : Nat) (x1 : Option Nat) (x4 : Int32) : Option (Mem) :=
  (if mK X x0 = some (7, 0) then (Option.bind (mR X 701 x0) fun a41_2 => (Option.bind (alen X a41_2) fun n41_2 => (if (nI n41_2) ≤ x4 then (fX7_perform_L65 fu fu X x0 x1 (0 : Int32) (0 : Int32)) else (Option.bind (mR X 701 x0) fun a52_4 => (if inb X 0 a52_4 x4 = true then (rec35 (sI X a52_4 x4.toNatClampNeg (0 : Int32)) x0 x1 (x4 + (1 : Int32))) else none))))) else none)
def fX7_perform_L35 (fu : Nat)  : Nat → Mem → Nat → (Option Nat) → Int32 → Option (Mem)
  | 0 => fun _ _ _ _ => none
  | n + 1 => fun X x0 x1 x4 => fX7_perform_L35b fu (fX7_perform_L35 fu n) X x0 x1 x4
def fX7_perform (fu : Nat)  (X : Mem) (x0 : Nat) (x1 : Option Nat) (x2 : Option Nat) (x3 : Int32) : Option (Mem) :=
  (if mK X x0 = some (7, 0) then (Option.bind (mR (wI (wI (wI (wI (wR X 704 x0 x2) 706 x0 x3) 707 x0 (0 : Int32)) 705 x0 (0 : Int32)) 708 x0 (0 : Int32)) 700 x0) fun a29_2 => (if mK (wI (wI (wI (wI (wR X 704 x0 x2) 706 x0 x3) 707 x0 (0 : Int32)) 705 x0 (0 : Int32)) 708 x0 (0 : Int32)) a29_2 = some (8, 0) then (Option.bind (fX8_begin (wI (wI (wI (wI (wR X 704 x0 x2) 706 x0 x3) 707 x0 (0 : Int32)) 705 x0 (0 : Int32)) 708 x0 (0 : Int32)) a29_2) fun X29 => (fX7_perform_L35 fu fu X29 x0 x1 (0 : Int32))) else none)) else none)
def rmX7_brokenBy : Room := { frames := 0, cells := 0, slots := 0, locals := 0 }
def fX7_brokenBy (X0 : Mem)  (x0 : Nat) : Option (Int32) :=
  (if mK X0 x0 = some (7, 0) then (some (mI X0 708 x0)) else none)
def rmX7_counted : Room := { frames := 0, cells := 0, slots := 0, locals := 0 }
def fX7_counted (X0 : Mem)  (x0 : Nat) : Option (Int32) :=
  (if mK X0 x0 = some (7, 0) then (some (mI X0 707 x0)) else none)
def rmX5_keepOutcome : Room := { frames := 0, cells := 0, slots := 0, locals := 0 }
def fX5_keepOutcome  (X : Mem) (x0 : Nat) (x1 : Int32) (x2 : Int32) : Option (Mem) :=
  (if mK X x0 = some (5, 0) then (some (wI (wI X 506 x0 x1) 507 x0 x2)) else none)
def rmX11_write : Room := { frames := 6, cells := 12, slots := 159, locals := 143 }
def fX11_write (fu : Nat)  (X0 : Mem) (x0 : Nat) (x1 : Int32) : Option (String ⊕ (Int32 × Mem)) :=
  (bE (fX11_checkPupil X0 x1) fun v1 => (if mK X0 x0 = some (11, 0) then (Option.bind (mR X0 1100 x0) fun a8_2 => (if mK X0 a8_2 = some (1, 0) then (Option.bind (fX1_length X0 a8_2) fun v8 => (if v8 = 0 then (some (.inl "java/lang/IllegalStateException")) else (Option.bind (mR X0 1100 x0) fun a18_4 => (if mK X0 a18_4 = some (1, 0) then (Option.bind (fX1_openBlocks X0 a18_4) fun v18 => (if v18 ≤ 0 then (if (mI X0 1108 x0) < 0 then (some (.inl "java/lang/IllegalStateException")) else (Option.bind (mR X0 1105 x0) fun a48_6 => (Option.bind (alen X0 a48_6) fun n48_6 => (if (mI X0 1108 x0) < (nI n48_6) then (Option.bind (some (mZ X0)) fun q62 => (Option.bind (some (nO X0 5)) fun X62 => (if mK X62 x0 = some (11, 0) then (Option.bind (fX5_init fu X62 q62 x1 (mR X62 1100 x0)) fun X71 => (if mK X71 x0 = some (11, 0) then (if mK X71 q62 = some (5, 0) then (Option.bind (mR X71 1101 x0) fun a87_11 => (if mK X71 a87_11 = some (7, 0) then (Option.bind (fX7_perform fu X71 a87_11 (some q62) (mR X71 505 q62) (600 : Int32)) fun X87 => (if mK X87 x0 = some (11, 0) then (Option.bind (mR X87 1101 x0) fun a95_14 => (if mK X87 a95_14 = some (7, 0) then (Option.bind (fX7_brokenBy X87 a95_14) fun v95 => (Option.bind (mR X87 1101 x0) fun a102_16 => (if mK X87 a102_16 = some (7, 0) then (Option.bind (fX7_counted X87 a102_16) fun v102 => (if mK X87 q62 = some (5, 0) then (Option.bind (fX5_keepOutcome X87 q62 v95 v102) fun X105 => (if mK X105 x0 = some (11, 0) then (Option.bind (mR X105 1105 x0) fun a114_20 => (if inb X105 4 a114_20 (mI X0 1108 x0) = true then (if mK X105 q62 = some (5, 0) then (Option.bind (mR (wI (sR X105 a114_20 (mI X0 1108 x0).toNatClampNeg (some q62)) 1108 x0 ((mI X0 1108 x0) + (1 : Int32))) 1100 x0) fun a126_22 => (if mK (wI (sR X105 a114_20 (mI X0 1108 x0).toNatClampNeg (some q62)) 1108 x0 ((mI X0 1108 x0) + (1 : Int32))) a126_22 = some (1, 0) then (Option.bind (fX1_makeEmpty fu (wI (sR X105 a114_20 (mI X0 1108 x0).toNatClampNeg (some q62)) 1108 x0 ((mI X0 1108 x0) + (1 : Int32))) a126_22) fun X126 => (some (.inr ((mI X0 1108 x0), X126)))) else none)) else none) else none)) else none)) else none)) else none))) else none)) else none)) else none)) else none) else none)) else none))) else (some (.inl "java/lang/IllegalStateException")))))) else (some (.inl "java/lang/IllegalStateException")))) else none)))) else none)) else none))
def rmX11_programAt : Room := { frames := 0, cells := 0, slots := 0, locals := 0 }
def fX11_programAt_L30 (X0 : Mem)  (x2 : Option Nat) : Option (String ⊕ (Option Nat)) :=
  (if x2 = none then (some (.inl "java/lang/IndexOutOfBoundsException")) else (some (.inr x2)))
def fX11_programAt (X0 : Mem)  (x0 : Nat) (x1 : Int32) : Option (String ⊕ (Option Nat)) :=
  (if x1 < 0 then (fX11_programAt_L30 X0 none) else (if mK X0 x0 = some (11, 0) then (if (mI X0 1108 x0) ≤ x1 then (fX11_programAt_L30 X0 none) else (Option.bind (mR X0 1105 x0) fun a19_2 => (Option.bind (alen X0 a19_2) fun n19_2 => (if (nI n19_2) ≤ x1 then (fX11_programAt_L30 X0 none) else (Option.bind (mR X0 1105 x0) fun a28_4 => (if inb X0 4 a28_4 x1 = true then (fX11_programAt_L30 X0 (aR X0 a28_4 x1.toNatClampNeg)) else none)))))) else none))
def rmX11_checkAllowance : Room := { frames := 0, cells := 0, slots := 0, locals := 0 }
def fX11_checkAllowance (X0 : Mem)  (x0 : Int32) (x1 : Int32) : Option (String ⊕ (Unit)) :=
  (if x0 < (1 : Int32) then (some (.inl "java/lang/IllegalArgumentException")) else (if (30 : Int32) < x0 then (some (.inl "java/lang/IllegalArgumentException")) else (if x1 < 0 then (some (.inl "java/lang/IllegalArgumentException")) else (if x1 ≤ (600 : Int32) then (some (.inr ())) else (some (.inl "java/lang/IllegalArgumentException"))))))
def rmX3_init : Room := { frames := 1, cells := 0, slots := 0, locals := 20 }
def fX3_init  (X : Mem) (x0 : Nat) (x1 : Option Nat) (x2 : Int32) (x3 : Int32) : Option (Mem) :=
  (if mK X x0 = some (3, 0) then (some (wI (wI (wR X 300 x0 x1) 301 x0 x2) 302 x0 x3)) else none)
def rmX11_exercise : Room := { frames := 2, cells := 1, slots := 3, locals := 43 }
def fX11_exercise  (X0 : Mem) (x0 : Nat) (x1 : Int32) (x2 : Int32) (x3 : Int32) : Option (String ⊕ (Int32 × Mem)) :=
  (if mK X0 x0 = some (11, 0) then (bE (fX11_programAt X0 x0 x1) fun v2 => (bE (fX11_checkAllowance X0 x2 x3) fun v9 => (if (mI X0 1109 x0) < 0 then (some (.inl "java/lang/IllegalStateException")) else (Option.bind (mR X0 1106 x0) fun a29_2 => (Option.bind (alen X0 a29_2) fun n29_2 => (if (mI X0 1109 x0) < (nI n29_2) then (Option.bind (some (mZ X0)) fun q49 => (Option.bind (some (nO X0 3)) fun X49 => (Option.bind (fX3_init X49 q49 v2 x2 x3) fun X57 => (Option.bind (mR X0 1106 x0) fun a60_4 => (if inb X57 5 a60_4 (mI X0 1109 x0) = true then (if mK X57 q49 = some (3, 0) then (if mK (sR X57 a60_4 (mI X0 1109 x0).toNatClampNeg (some q49)) x0 = some (11, 0) then (some (.inr ((mI X0 1109 x0), (wI (sR X57 a60_4 (mI X0 1109 x0).toNatClampNeg (some q49)) 1109 x0 ((mI X0 1109 x0) + (1 : Int32)))))) else none) else none) else none))))) else (some (.inl "java/lang/IllegalStateException")))))))) else none)
def rmX11_exerciseAt : Room := { frames := 0, cells := 0, slots := 0, locals := 0 }
def fX11_exerciseAt_L30 (X0 : Mem)  (x2 : Option Nat) : Option (String ⊕ (Option Nat)) :=
  (if x2 = none then (some (.inl "java/lang/IndexOutOfBoundsException")) else (some (.inr x2)))
def fX11_exerciseAt (X0 : Mem)  (x0 : Nat) (x1 : Int32) : Option (String ⊕ (Option Nat)) :=
  (if x1 < 0 then (fX11_exerciseAt_L30 X0 none) else (if mK X0 x0 = some (11, 0) then (if (mI X0 1109 x0) ≤ x1 then (fX11_exerciseAt_L30 X0 none) else (Option.bind (mR X0 1106 x0) fun a19_2 => (Option.bind (alen X0 a19_2) fun n19_2 => (if (nI n19_2) ≤ x1 then (fX11_exerciseAt_L30 X0 none) else (Option.bind (mR X0 1106 x0) fun a28_4 => (if inb X0 5 a28_4 x1 = true then (fX11_exerciseAt_L30 X0 (aR X0 a28_4 x1.toNatClampNeg)) else none)))))) else none))
def rmX3_allowAtMost : Room := { frames := 0, cells := 0, slots := 0, locals := 0 }
def fX3_allowAtMost  (X : Mem) (x0 : Nat) (x1 : Int32) (x2 : Int32) : Option (Mem) :=
  (if mK X x0 = some (3, 0) then (some (wI (wI X 301 x0 x1) 302 x0 x2)) else none)
def rmX9_makeEmpty : Room := { frames := 0, cells := 0, slots := 0, locals := 0 }
def fX9_makeEmpty_L2b (fu : Nat) (rec2 : Mem → Nat → Int32 → Option (Mem)) (X : Mem) (x0 : Nat) (x1 : Int32) : Option (Mem) :=
  (if mK X x0 = some (9, 0) then (Option.bind (mR X 900 x0) fun a7_2 => (Option.bind (alen X a7_2) fun n7_2 => (if (nI n7_2) ≤ x1 then (some X) else (Option.bind (mR X 900 x0) fun a17_4 => (if inb X 2 a17_4 x1 = true then (rec2 (sJ X a17_4 x1.toNatClampNeg (0 : Int64)) x0 (x1 + (1 : Int32))) else none))))) else none)
def fX9_makeEmpty_L2 (fu : Nat)  : Nat → Mem → Nat → Int32 → Option (Mem)
  | 0 => fun _ _ _ => none
  | n + 1 => fun X x0 x1 => fX9_makeEmpty_L2b fu (fX9_makeEmpty_L2 fu n) X x0 x1
def fX9_makeEmpty (fu : Nat)  (X : Mem) (x0 : Nat) : Option (Mem) :=
  (fX9_makeEmpty_L2 fu fu X x0 (0 : Int32))
def rmX2_rowInCorner : Room := { frames := 1, cells := 0, slots := 0, locals := 20 }
def fX2_rowInCorner (X0 : Mem)  (x0 : Nat) (x1 : Option Nat) (x2 : Int32) : Option (Int32) :=
  (if mK X0 x0 = some (2, 0) then (Option.bind (fX11_isOnGround X0 (mI X0 203 x0)) fun v11 => (if v11 = 0 then (some (0 : Int32)) else (if ((mI X0 204 x0) + x2) < 0 then (some (0 : Int32)) else (Option.bind x1 fun a23_2 => (Option.bind (alen X0 a23_2) fun n23_2 => (if (nI n23_2) ≤ ((mI X0 204 x0) + x2) then (some (0 : Int32)) else (if inb X0 0 a23_2 ((mI X0 204 x0) + x2) = true then (some ((aI X0 a23_2 ((mI X0 204 x0) + x2).toNatClampNeg) >>> ((mI X0 203 x0) &&& 31))) else none))))))) else none)
def rmX2_isShiftOf : Room := { frames := 2, cells := 0, slots := 0, locals := 43 }
def fX2_isShiftOf_L24b (fu : Nat) (X0 : Mem) (rec24 : Nat → Nat → Int32 → Option (Int32)) (x0 : Nat) (x1 : Nat) (x2 : Int32) : Option (Int32) :=
  (if (16 : Int32) ≤ x2 then (some (1 : Int32)) else (if mK X0 x0 = some (2, 0) then (Option.bind (fX2_rowInCorner X0 x0 (mR X0 200 x0) x2) fun v36 => (if mK X0 x1 = some (2, 0) then (Option.bind (fX2_rowInCorner X0 x1 (mR X0 200 x1) x2) fun v45 => (if v36 = v45 then (Option.bind (fX2_rowInCorner X0 x0 (mR X0 201 x0) x2) fun v57 => (Option.bind (fX2_rowInCorner X0 x1 (mR X0 201 x1) x2) fun v66 => (if v57 = v66 then (rec24 x0 x1 (x2 + (1 : Int32))) else (some (0 : Int32))))) else (some (0 : Int32)))) else none)) else none))
def fX2_isShiftOf_L24 (fu : Nat) (X0 : Mem)  : Nat → Nat → Nat → Int32 → Option (Int32)
  | 0 => fun _ _ _ => none
  | n + 1 => fun x0 x1 x2 => fX2_isShiftOf_L24b fu X0 (fX2_isShiftOf_L24 fu X0 n) x0 x1 x2
def fX2_isShiftOf (fu : Nat) (X0 : Mem)  (x0 : Nat) (x1 : Option Nat) : Option (Int32) :=
  (if mK X0 x0 = some (2, 0) then (Option.bind x1 fun a5_2 => (if mK X0 a5_2 = some (2, 0) then (if (mI X0 202 x0) = (mI X0 202 a5_2) then (if (mI X0 202 x0) = 0 then (some (1 : Int32)) else (fX2_isShiftOf_L24 fu X0 fu x0 a5_2 (0 : Int32))) else (some (0 : Int32))) else none)) else none)
def rmX3_isMetBy : Room := { frames := 3, cells := 0, slots := 0, locals := 65 }
def fX3_isMetBy (fu : Nat) (X0 : Mem)  (x0 : Nat) (x1 : Option Nat) : Option (Int32) :=
  (Option.bind x1 fun a1_1 => (if mK X0 a1_1 = some (5, 0) then (if (mI X0 506 a1_1) = 0 then (Option.bind (fX5_length X0 a1_1) fun v8 => (if mK X0 x0 = some (3, 0) then (if (mI X0 301 x0) < v8 then (some (0 : Int32)) else (if (mI X0 302 x0) < (mI X0 507 a1_1) then (some (0 : Int32)) else (Option.bind (mR X0 300 x0) fun a37_4 => (if mK X0 a37_4 = some (5, 0) then (Option.bind (mR X0 505 a1_1) fun a40_6 => (if mK X0 a40_6 = some (2, 0) then (Option.bind (fX2_isShiftOf fu X0 a40_6 (mR X0 505 a37_4)) fun v40 => (if v40 = 0 then (some (0 : Int32)) else (some (1 : Int32)))) else none)) else none)))) else none)) else (some (0 : Int32))) else none))
def rmX10_meetsExercise : Room := { frames := 4, cells := 0, slots := 0, locals := 86 }
def fX10_meetsExercise (fu : Nat) (X0 : Mem)  (x0 : Nat) : Option (Int32) :=
  (if mK X0 x0 = some (10, 0) then (Option.bind (mR X0 1001 x0) fun a8_2 => (if mK X0 a8_2 = some (3, 0) then (Option.bind (fX3_isMetBy fu X0 a8_2 (mR X0 1000 x0)) fun v8 => (if v8 = 0 ∨ v8 = 1 then (some v8) else none)) else none)) else none)
def rmX10_isInDoubt : Room := { frames := 0, cells := 0, slots := 0, locals := 0 }
def fX10_isInDoubt (X0 : Mem)  (x0 : Nat) : Option (Int32) :=
  (if mK X0 x0 = some (10, 0) then (if (mI X0 1002 x0) = (-1) then (some (0 : Int32)) else (if (mI X0 1003 x0) = 0 then (some (1 : Int32)) else (some (0 : Int32)))) else none)
def rmX2_cellsWide : Room := { frames := 0, cells := 0, slots := 0, locals := 0 }
def fX2_cellsWide (X0 : Mem)  (x0 : Nat) : Option (Int32) :=
  (if mK X0 x0 = some (2, 0) then (if (mI X0 202 x0) = 0 then (some (1 : Int32)) else (some (((mI X0 205 x0) - (mI X0 203 x0)) + (1 : Int32)))) else none)
def rmX2_cellsHigh : Room := { frames := 0, cells := 0, slots := 0, locals := 0 }
def fX2_cellsHigh (X0 : Mem)  (x0 : Nat) : Option (Int32) :=
  (if mK X0 x0 = some (2, 0) then (if (mI X0 202 x0) = 0 then (some (1 : Int32)) else (some (((mI X0 206 x0) - (mI X0 204 x0)) + (1 : Int32)))) else none)
def rmX9_takenFrom : Room := { frames := 0, cells := 0, slots := 0, locals := 0 }
def fX9_takenFrom_L5b (fu : Nat) (X0 : Mem) (rec5 : Nat → Int32 → Int32 → Int64 → Int32 → Option (Int64)) (x0 : Nat) (x1 : Int32) (x2 : Int32) (x3 : Int64) (x5 : Int32) : Option (Int64) :=
  (if (x1 + x2) ≤ x5 then (some x3) else (if x5 < 0 then (some x3) else (if mK X0 x0 = some (9, 0) then (Option.bind (mR X0 900 x0) fun a24_2 => (Option.bind (alen X0 a24_2) fun n24_2 => (if (nI n24_2) ≤ x5 then (some x3) else (Option.bind (mR X0 900 x0) fun a35_4 => (if inb X0 2 a35_4 x5 = true then (rec5 x0 x1 x2 (x3 ||| (aJ X0 a35_4 x5.toNatClampNeg)) (x5 + (1 : Int32))) else none))))) else none)))
def fX9_takenFrom_L5 (fu : Nat) (X0 : Mem)  : Nat → Nat → Int32 → Int32 → Int64 → Int32 → Option (Int64)
  | 0 => fun _ _ _ _ _ => none
  | n + 1 => fun x0 x1 x2 x3 x5 => fX9_takenFrom_L5b fu X0 (fX9_takenFrom_L5 fu X0 n) x0 x1 x2 x3 x5
def fX9_takenFrom (fu : Nat) (X0 : Mem)  (x0 : Nat) (x1 : Int32) (x2 : Int32) : Option (Int64) :=
  (fX9_takenFrom_L5 fu X0 fu x0 x1 x2 (0 : Int64) x1)
def rmX9_firstFree : Room := { frames := 0, cells := 0, slots := 0, locals := 0 }
def fX9_firstFree_L3b (fu : Nat) (X0 : Mem) (rec3 : Int64 → Int64 → Int32 → Int32 → Option (Int32)) (x0 : Int64) (x2 : Int64) (x4 : Int32) (x5 : Int32) : Option (Int32) :=
  (if x4 < x5 then (some (-1)) else (if (lg_cmp ((x0 >>> (x5.toInt64 &&& 63)) &&& x2) (0 : Int64)) = 0 then (some x5) else (rec3 x0 x2 x4 (x5 + (1 : Int32)))))
def fX9_firstFree_L3 (fu : Nat) (X0 : Mem)  : Nat → Int64 → Int64 → Int32 → Int32 → Option (Int32)
  | 0 => fun _ _ _ _ => none
  | n + 1 => fun x0 x2 x4 x5 => fX9_firstFree_L3b fu X0 (fX9_firstFree_L3 fu X0 n) x0 x2 x4 x5
def fX9_firstFree (fu : Nat) (X0 : Mem)  (x0 : Int64) (x2 : Int64) (x4 : Int32) : Option (Int32) :=
  (fX9_firstFree_L3 fu X0 fu x0 x2 x4 (0 : Int32))
def rmX9_take : Room := { frames := 0, cells := 0, slots := 0, locals := 0 }
def fX9_take_L3b (fu : Nat) (rec3 : Mem → Nat → Int32 → Int32 → Int64 → Int32 → Option (Mem)) (X : Mem) (x0 : Nat) (x1 : Int32) (x2 : Int32) (x3 : Int64) (x5 : Int32) : Option (Mem) :=
  (if (x1 + x2) ≤ x5 then (some X) else (if x5 < 0 then (some X) else (if mK X x0 = some (9, 0) then (Option.bind (mR X 900 x0) fun a22_2 => (Option.bind (alen X a22_2) fun n22_2 => (if (nI n22_2) ≤ x5 then (some X) else (Option.bind (mR X 900 x0) fun a33_4 => (if inb X 2 a33_4 x5 = true then (if inb X 2 a33_4 x5 = true then (rec3 (sJ X a33_4 x5.toNatClampNeg ((aJ X a33_4 x5.toNatClampNeg) ||| x3)) x0 x1 x2 x3 (x5 + (1 : Int32))) else none) else none))))) else none)))
def fX9_take_L3 (fu : Nat)  : Nat → Mem → Nat → Int32 → Int32 → Int64 → Int32 → Option (Mem)
  | 0 => fun _ _ _ _ _ _ => none
  | n + 1 => fun X x0 x1 x2 x3 x5 => fX9_take_L3b fu (fX9_take_L3 fu n) X x0 x1 x2 x3 x5
def fX9_take (fu : Nat)  (X : Mem) (x0 : Nat) (x1 : Int32) (x2 : Int32) (x3 : Int64) : Option (Mem) :=
  (fX9_take_L3 fu fu X x0 x1 x2 x3 x1)
def rmX10_hangAt : Room := { frames := 0, cells := 0, slots := 0, locals := 0 }
def fX10_hangAt  (X : Mem) (x0 : Nat) (x1 : Int32) (x2 : Int32) : Option (Mem) :=
  (if mK X x0 = some (10, 0) then (some (wI (wI (wI X 1005 x0 x1) 1006 x0 x2) 1004 x0 (1 : Int32))) else none)
def rmX9_place : Room := { frames := 1, cells := 0, slots := 0, locals := 25 }
def fX9_place_L32b (fu : Nat) (rec32 : Mem → Nat → Nat → Int32 → Int32 → Int64 → Int32 → Option (Mem)) (X : Mem) (x0 : Nat) (x1 : Nat) (x2 : Int32) (x3 : Int32) (x4 : Int64) (x6 : Int32) : Option (Mem) :=
  (if mK X x0 = some (9, 0) then (if ((mI X 902 x0) - x3) < x6 then (some X) else (Option.bind (fX9_takenFrom fu X x0 x6 x3) fun v47 => (Option.bind (fX9_firstFree fu X v47 x4 ((mI X 901 x0) - x2)) fun v58 => (if v58 = (-1) then (rec32 X x0 x1 x2 x3 x4 (x6 + (1 : Int32))) else (Option.bind (fX9_take fu X x0 x6 x3 (x4 <<< (v58.toInt64 &&& 63))) fun X78 => (if mK X78 x1 = some (10, 0) then (Option.bind (fX10_hangAt X78 x1 v58 x6) fun X86 => (some X86)) else none)))))) else none)
def fX9_place_L32 (fu : Nat)  : Nat → Mem → Nat → Nat → Int32 → Int32 → Int64 → Int32 → Option (Mem)
  | 0 => fun _ _ _ _ _ _ _ => none
  | n + 1 => fun X x0 x1 x2 x3 x4 x6 => fX9_place_L32b fu (fX9_place_L32 fu n) X x0 x1 x2 x3 x4 x6
def fX9_place (fu : Nat)  (X : Mem) (x0 : Nat) (x1 : Option Nat) : Option (Mem) :=
  (Option.bind x1 fun a1_1 => (if mK X a1_1 = some (10, 0) then (Option.bind (mR X 1000 a1_1) fun a4_3 => (if mK X a4_3 = some (5, 0) then (Option.bind (mR X 505 a4_3) fun a7_5 => (if mK X a7_5 = some (2, 0) then (Option.bind (fX2_cellsWide X a7_5) fun v7 => (Option.bind (mR X 1000 a1_1) fun a15_7 => (if mK X a15_7 = some (5, 0) then (Option.bind (mR X 505 a15_7) fun a18_9 => (if mK X a18_9 = some (2, 0) then (Option.bind (fX2_cellsHigh X a18_9) fun v18 => (fX9_place_L32 fu fu X x0 a1_1 v7 v18 (((1 : Int64) <<< (v7.toInt64 &&& 63)) - (1 : Int64)) (0 : Int32))) else none)) else none))) else none)) else none)) else none))
def rmX11_layWall : Room := { frames := 5, cells := 0, slots := 0, locals := 106 }
def fX11_layWall_L64 (fu : Nat) (rec9 : Mem → Nat → Int32 → Option (Mem)) (X : Mem) (x0 : Nat) (x1 : Int32) : Option (Mem) :=
  (rec9 X x0 (x1 + (1 : Int32)))
def fX11_layWall_L9b (fu : Nat) (rec9 : Mem → Nat → Int32 → Option (Mem)) (X : Mem) (x0 : Nat) (x1 : Int32) : Option (Mem) :=
  (if mK X x0 = some (11, 0) then (if (mI X 1110 x0) ≤ x1 then (some X) else (Option.bind (mR X 1107 x0) fun a22_2 => (Option.bind (alen X a22_2) fun n22_2 => (if (nI n22_2) ≤ x1 then (some X) else (Option.bind (mR X 1107 x0) fun a31_4 => (if inb X 6 a31_4 x1 = true then (if (aR X a31_4 x1.toNatClampNeg) = none then (fX11_layWall_L64 fu rec9 X x0 x1) else (Option.bind (aR X a31_4 x1.toNatClampNeg) fun a39_5 => (if mK X a39_5 = some (10, 0) then (Option.bind (fX10_meetsExercise fu (wI X 1004 a39_5 (0 : Int32)) a39_5) fun v43 => (if v43 = 0 then (fX11_layWall_L64 fu rec9 (wI X 1004 a39_5 (0 : Int32)) x0 x1) else (Option.bind (fX10_isInDoubt (wI X 1004 a39_5 (0 : Int32)) a39_5) fun v50 => (if v50 = 0 then (Option.bind (mR (wI X 1004 a39_5 (0 : Int32)) 1104 x0) fun a61_7 => (if mK (wI X 1004 a39_5 (0 : Int32)) a61_7 = some (9, 0) then (Option.bind (fX9_place fu (wI X 1004 a39_5 (0 : Int32)) a61_7 (some a39_5)) fun X61 => (fX11_layWall_L64 fu rec9 X61 x0 x1)) else none)) else (fX11_layWall_L64 fu rec9 (wI X 1004 a39_5 (0 : Int32)) x0 x1))))) else none))) else none)))))) else none)
def fX11_layWall_L9 (fu : Nat)  : Nat → Mem → Nat → Int32 → Option (Mem)
  | 0 => fun _ _ _ => none
  | n + 1 => fun X x0 x1 => fX11_layWall_L9b fu (fX11_layWall_L9 fu n) X x0 x1
def fX11_layWall (fu : Nat)  (X : Mem) (x0 : Nat) : Option (Mem) :=
  (if mK X x0 = some (11, 0) then (Option.bind (mR X 1104 x0) fun a4_2 => (if mK X a4_2 = some (9, 0) then (Option.bind (fX9_makeEmpty fu X a4_2) fun X4 => (fX11_layWall_L9 fu fu X4 x0 (0 : Int32))) else none)) else none)
def rmX11_countMeeting : Room := { frames := 5, cells := 0, slots := 0, locals := 106 }
def fX11_countMeeting_L54 (fu : Nat) (X0 : Mem) (rec4 : Nat → (Option Nat) → Int32 → Int32 → Option (Int32)) (x0 : Nat) (x1 : Option Nat) (x2 : Int32) (x3 : Int32) : Option (Int32) :=
  (rec4 x0 x1 x2 (x3 + (1 : Int32)))
def fX11_countMeeting_L4b (fu : Nat) (X0 : Mem) (rec4 : Nat → (Option Nat) → Int32 → Int32 → Option (Int32)) (x0 : Nat) (x1 : Option Nat) (x2 : Int32) (x3 : Int32) : Option (Int32) :=
  (if mK X0 x0 = some (11, 0) then (if (mI X0 1110 x0) ≤ x3 then (some x2) else (Option.bind (mR X0 1107 x0) fun a17_2 => (Option.bind (alen X0 a17_2) fun n17_2 => (if (nI n17_2) ≤ x3 then (some x2) else (Option.bind (mR X0 1107 x0) fun a26_4 => (if inb X0 6 a26_4 x3 = true then (if (aR X0 a26_4 x3.toNatClampNeg) = none then (fX11_countMeeting_L54 fu X0 rec4 x0 x1 x2 x3) else (Option.bind (aR X0 a26_4 x3.toNatClampNeg) fun a36_5 => (if mK X0 a36_5 = some (10, 0) then (if (mR X0 1001 a36_5) = x1 then (Option.bind (fX10_meetsExercise fu X0 a36_5) fun v45 => (if v45 = 0 then (fX11_countMeeting_L54 fu X0 rec4 x0 x1 x2 x3) else (fX11_countMeeting_L54 fu X0 rec4 x0 x1 (x2 + (1 : Int32)) x3))) else (fX11_countMeeting_L54 fu X0 rec4 x0 x1 x2 x3)) else none))) else none)))))) else none)
def fX11_countMeeting_L4 (fu : Nat) (X0 : Mem)  : Nat → Nat → (Option Nat) → Int32 → Int32 → Option (Int32)
  | 0 => fun _ _ _ _ => none
  | n + 1 => fun x0 x1 x2 x3 => fX11_countMeeting_L4b fu X0 (fX11_countMeeting_L4 fu X0 n) x0 x1 x2 x3
def fX11_countMeeting (fu : Nat) (X0 : Mem)  (x0 : Nat) (x1 : Option Nat) : Option (Int32) :=
  (fX11_countMeeting_L4 fu X0 fu x0 x1 (0 : Int32) (0 : Int32))
def rmX11_allow : Room := { frames := 6, cells := 0, slots := 0, locals := 130 }
def fX11_allow (fu : Nat)  (X0 : Mem) (x0 : Nat) (x1 : Int32) (x2 : Int32) (x3 : Int32) : Option (String ⊕ (Int32 × Mem)) :=
  (if mK X0 x0 = some (11, 0) then (bE (fX11_exerciseAt X0 x0 x1) fun v2 => (bE (fX11_checkAllowance X0 x2 x3) fun v9 => (Option.bind v2 fun a16_2 => (if mK X0 a16_2 = some (3, 0) then (Option.bind (fX3_allowAtMost X0 a16_2 x2 x3) fun X16 => (if mK X16 x0 = some (11, 0) then (Option.bind (fX11_layWall fu X16 x0) fun X20 => (if mK X20 x0 = some (11, 0) then (Option.bind (fX11_countMeeting fu X20 x0 (some a16_2)) fun v26 => (some (.inr (v26, X20)))) else none)) else none)) else none)))) else none)
def rmX5_hasFormOf : Room := { frames := 0, cells := 0, slots := 0, locals := 0 }
def fX5_hasFormOf_L17b (fu : Nat) (X0 : Mem) (rec17 : Nat → Nat → Int32 → Option (Int32)) (x0 : Nat) (x1 : Nat) (x2 : Int32) : Option (Int32) :=
  (if mK X0 x0 = some (5, 0) then (Option.bind (mR X0 504 x0) fun a22_2 => (Option.bind (alen X0 a22_2) fun n22_2 => (if (nI n22_2) ≤ x2 then (some (1 : Int32)) else (if mK X0 x1 = some (5, 0) then (Option.bind (mR X0 504 x1) fun a31_5 => (Option.bind (alen X0 a31_5) fun n31_5 => (if (nI n31_5) ≤ x2 then (some (1 : Int32)) else (Option.bind (mR X0 504 x0) fun a40_7 => (if inb X0 0 a40_7 x2 = true then (Option.bind (mR X0 504 x1) fun a46_8 => (if inb X0 0 a46_8 x2 = true then (if (aI X0 a40_7 x2.toNatClampNeg) = (aI X0 a46_8 x2.toNatClampNeg) then (rec17 x0 x1 (x2 + (1 : Int32))) else (some (0 : Int32))) else none)) else none))))) else none)))) else none)
def fX5_hasFormOf_L17 (fu : Nat) (X0 : Mem)  : Nat → Nat → Nat → Int32 → Option (Int32)
  | 0 => fun _ _ _ => none
  | n + 1 => fun x0 x1 x2 => fX5_hasFormOf_L17b fu X0 (fX5_hasFormOf_L17 fu X0 n) x0 x1 x2
def fX5_hasFormOf (fu : Nat) (X0 : Mem)  (x0 : Nat) (x1 : Option Nat) : Option (Int32) :=
  (if mK X0 x0 = some (5, 0) then (Option.bind (mR X0 504 x0) fun a4_2 => (Option.bind (alen X0 a4_2) fun n4_2 => (Option.bind x1 fun a6_4 => (if mK X0 a6_4 = some (5, 0) then (Option.bind (mR X0 504 a6_4) fun a9_6 => (Option.bind (alen X0 a9_6) fun n9_6 => (if (nI n4_2) = (nI n9_6) then (fX5_hasFormOf_L17 fu X0 fu x0 a6_4 (0 : Int32)) else (some (0 : Int32))))) else none)))) else none)
def rmX11_findOriginal : Room := { frames := 1, cells := 0, slots := 0, locals := 22 }
def fX11_findOriginal_L70 (fu : Nat) (X0 : Mem) (rec2 : Nat → (Option Nat) → (Option Nat) → Int32 → Option (Int32)) (x0 : Nat) (x1 : Option Nat) (x2 : Option Nat) (x3 : Int32) : Option (Int32) :=
  (rec2 x0 x1 x2 (x3 + (1 : Int32)))
def fX11_findOriginal_L2b (fu : Nat) (X0 : Mem) (rec2 : Nat → (Option Nat) → (Option Nat) → Int32 → Option (Int32)) (x0 : Nat) (x1 : Option Nat) (x2 : Option Nat) (x3 : Int32) : Option (Int32) :=
  (if mK X0 x0 = some (11, 0) then (if (mI X0 1110 x0) ≤ x3 then (some (-1)) else (Option.bind (mR X0 1107 x0) fun a15_2 => (Option.bind (alen X0 a15_2) fun n15_2 => (if (nI n15_2) ≤ x3 then (some (-1)) else (Option.bind (mR X0 1107 x0) fun a24_4 => (if inb X0 6 a24_4 x3 = true then (if (aR X0 a24_4 x3.toNatClampNeg) = none then (fX11_findOriginal_L70 fu X0 rec2 x0 x1 x2 x3) else (Option.bind (aR X0 a24_4 x3.toNatClampNeg) fun a34_5 => (if mK X0 a34_5 = some (10, 0) then (if (mR X0 1001 a34_5) = x2 then (Option.bind (mR X0 1000 a34_5) fun a46_7 => (if mK X0 a46_7 = some (5, 0) then (Option.bind x1 fun a50_9 => (if mK X0 a50_9 = some (5, 0) then (if (mI X0 500 a46_7) = (mI X0 500 a50_9) then (fX11_findOriginal_L70 fu X0 rec2 x0 (some a50_9) x2 x3) else (Option.bind (mR X0 1000 a34_5) fun a62_11 => (if mK X0 a62_11 = some (5, 0) then (Option.bind (fX5_hasFormOf fu X0 a62_11 (some a50_9)) fun v62 => (if v62 = 0 then (fX11_findOriginal_L70 fu X0 rec2 x0 (some a50_9) x2 x3) else (some x3))) else none))) else none)) else none)) else (fX11_findOriginal_L70 fu X0 rec2 x0 x1 x2 x3)) else none))) else none)))))) else none)
def fX11_findOriginal_L2 (fu : Nat) (X0 : Mem)  : Nat → Nat → (Option Nat) → (Option Nat) → Int32 → Option (Int32)
  | 0 => fun _ _ _ _ => none
  | n + 1 => fun x0 x1 x2 x3 => fX11_findOriginal_L2b fu X0 (fX11_findOriginal_L2 fu X0 n) x0 x1 x2 x3
def fX11_findOriginal (fu : Nat) (X0 : Mem)  (x0 : Nat) (x1 : Option Nat) (x2 : Option Nat) : Option (Int32) :=
  (fX11_findOriginal_L2 fu X0 fu x0 x1 x2 (0 : Int32))
def rmX10_init : Room := { frames := 1, cells := 0, slots := 0, locals := 20 }
def fX10_init  (X : Mem) (x0 : Nat) (x1 : Option Nat) (x2 : Option Nat) (x3 : Int32) : Option (Mem) :=
  (if mK X x0 = some (10, 0) then (some (wI (wR (wR X 1000 x0 x1) 1001 x0 x2) 1002 x0 x3)) else none)
def rmX11_handIn : Room := { frames := 6, cells := 1, slots := 7, locals := 128 }
def fX11_handIn (fu : Nat)  (X0 : Mem) (x0 : Nat) (x1 : Int32) (x2 : Int32) : Option (String ⊕ (Int32 × Mem)) :=
  (if mK X0 x0 = some (11, 0) then (bE (fX11_programAt X0 x0 x1) fun v2 => (bE (fX11_exerciseAt X0 x0 x2) fun v8 => (if (mI X0 1110 x0) < 0 then (some (.inl "java/lang/IllegalStateException")) else (Option.bind (mR X0 1107 x0) fun a30_2 => (Option.bind (alen X0 a30_2) fun n30_2 => (if (mI X0 1110 x0) < (nI n30_2) then (Option.bind (some (mZ X0)) fun q50 => (Option.bind (some (nO X0 10)) fun X50 => (if mK X50 x0 = some (11, 0) then (Option.bind (fX11_findOriginal fu X50 x0 v2 v8) fun v61 => (Option.bind (fX10_init X50 q50 v2 v8 v61) fun X64 => (Option.bind (mR X0 1107 x0) fun a67_5 => (if inb X64 6 a67_5 (mI X0 1110 x0) = true then (if mK X64 q50 = some (10, 0) then (if mK (sR X64 a67_5 (mI X0 1110 x0).toNatClampNeg (some q50)) x0 = some (11, 0) then (Option.bind (fX11_layWall fu (wI (sR X64 a67_5 (mI X0 1110 x0).toNatClampNeg (some q50)) 1110 x0 ((mI X0 1110 x0) + (1 : Int32))) x0) fun X77 => (some (.inr ((mI X0 1110 x0), X77)))) else none) else none) else none)))) else none))) else (some (.inl "java/lang/IllegalStateException")))))))) else none)
def rmX11_workAt : Room := { frames := 0, cells := 0, slots := 0, locals := 0 }
def fX11_workAt_L30 (X0 : Mem)  (x2 : Option Nat) : Option (String ⊕ (Option Nat)) :=
  (if x2 = none then (some (.inl "java/lang/IndexOutOfBoundsException")) else (some (.inr x2)))
def fX11_workAt (X0 : Mem)  (x0 : Nat) (x1 : Int32) : Option (String ⊕ (Option Nat)) :=
  (if x1 < 0 then (fX11_workAt_L30 X0 none) else (if mK X0 x0 = some (11, 0) then (if (mI X0 1110 x0) ≤ x1 then (fX11_workAt_L30 X0 none) else (Option.bind (mR X0 1107 x0) fun a19_2 => (Option.bind (alen X0 a19_2) fun n19_2 => (if (nI n19_2) ≤ x1 then (fX11_workAt_L30 X0 none) else (Option.bind (mR X0 1107 x0) fun a28_4 => (if inb X0 6 a28_4 x1 = true then (fX11_workAt_L30 X0 (aR X0 a28_4 x1.toNatClampNeg)) else none)))))) else none))
def rmX11_clear : Room := { frames := 6, cells := 0, slots := 0, locals := 128 }
def fX11_clear (fu : Nat)  (X0 : Mem) (x0 : Nat) (x1 : Int32) (x2 : Int32) : Option (String ⊕ (Int32 × Mem)) :=
  (if mK X0 x0 = some (11, 0) then (bE (fX11_workAt X0 x0 x1) fun v2 => (Option.bind v2 fun a7_2 => (if mK X0 a7_2 = some (10, 0) then (if x2 = 0 ∨ x2 = 1 then (Option.bind (fX11_layWall fu (wI X0 1003 a7_2 x2) x0) fun X18 => (if (mI X0 1003 a7_2) = 0 ∨ (mI X0 1003 a7_2) = 1 then (some (.inr ((mI X0 1003 a7_2), X18))) else none)) else none) else none))) else none)
def rmX9_measure : Room := { frames := 0, cells := 0, slots := 0, locals := 0 }
def fX9_measure  (X : Mem) (x0 : Nat) (x1 : Int32) (x2 : Int32) : Option (Mem) :=
  (if mK X x0 = some (9, 0) then (some (wI (wI X 901 x0 x1) 902 x0 x2)) else none)
def rmX11_countHanging : Room := { frames := 0, cells := 0, slots := 0, locals := 0 }
def fX11_countHanging_L42 (fu : Nat) (X0 : Mem) (rec4 : Nat → Int32 → Int32 → Option (Int32)) (x0 : Nat) (x1 : Int32) (x2 : Int32) : Option (Int32) :=
  (rec4 x0 x1 (x2 + (1 : Int32)))
def fX11_countHanging_L4b (fu : Nat) (X0 : Mem) (rec4 : Nat → Int32 → Int32 → Option (Int32)) (x0 : Nat) (x1 : Int32) (x2 : Int32) : Option (Int32) :=
  (if mK X0 x0 = some (11, 0) then (if (mI X0 1110 x0) ≤ x2 then (some x1) else (Option.bind (mR X0 1107 x0) fun a17_2 => (Option.bind (alen X0 a17_2) fun n17_2 => (if (nI n17_2) ≤ x2 then (some x1) else (Option.bind (mR X0 1107 x0) fun a26_4 => (if inb X0 6 a26_4 x2 = true then (if (aR X0 a26_4 x2.toNatClampNeg) = none then (fX11_countHanging_L42 fu X0 rec4 x0 x1 x2) else (Option.bind (aR X0 a26_4 x2.toNatClampNeg) fun a33_5 => (if mK X0 a33_5 = some (10, 0) then (if (mI X0 1004 a33_5) = 0 then (fX11_countHanging_L42 fu X0 rec4 x0 x1 x2) else (fX11_countHanging_L42 fu X0 rec4 x0 (x1 + (1 : Int32)) x2)) else none))) else none)))))) else none)
def fX11_countHanging_L4 (fu : Nat) (X0 : Mem)  : Nat → Nat → Int32 → Int32 → Option (Int32)
  | 0 => fun _ _ _ => none
  | n + 1 => fun x0 x1 x2 => fX11_countHanging_L4b fu X0 (fX11_countHanging_L4 fu X0 n) x0 x1 x2
def fX11_countHanging (fu : Nat) (X0 : Mem)  (x0 : Nat) : Option (Int32) :=
  (fX11_countHanging_L4 fu X0 fu x0 (0 : Int32) (0 : Int32))
def rmX11_setWall : Room := { frames := 6, cells := 0, slots := 0, locals := 128 }
def fX11_setWall (fu : Nat)  (X0 : Mem) (x0 : Nat) (x1 : Int32) (x2 : Int32) : Option (String ⊕ (Int32 × Mem)) :=
  (if x1 < (1 : Int32) then (some (.inl "java/lang/IllegalArgumentException")) else (if (40 : Int32) < x1 then (some (.inl "java/lang/IllegalArgumentException")) else (if x2 < (1 : Int32) then (some (.inl "java/lang/IllegalArgumentException")) else (if x2 ≤ (40 : Int32) then (if mK X0 x0 = some (11, 0) then (Option.bind (mR X0 1104 x0) fun a38_2 => (if mK X0 a38_2 = some (9, 0) then (Option.bind (fX9_measure X0 a38_2 x1 x2) fun X38 => (if mK X38 x0 = some (11, 0) then (Option.bind (fX11_layWall fu X38 x0) fun X42 => (if mK X42 x0 = some (11, 0) then (Option.bind (fX11_countHanging fu X42 x0) fun v46 => (some (.inr (v46, X42)))) else none)) else none)) else none)) else none) else (some (.inl "java/lang/IllegalArgumentException"))))))
def rmX11_drafted : Room := { frames := 1, cells := 0, slots := 0, locals := 20 }
def fX11_drafted (X0 : Mem)  (x0 : Nat) : Option (Int32) :=
  (if mK X0 x0 = some (11, 0) then (Option.bind (mR X0 1100 x0) fun a4_2 => (if mK X0 a4_2 = some (1, 0) then (Option.bind (fX1_length X0 a4_2) fun v4 => (some v4)) else none)) else none)
def rmX11_programs : Room := { frames := 0, cells := 0, slots := 0, locals := 0 }
def fX11_programs (X0 : Mem)  (x0 : Nat) : Option (Int32) :=
  (if mK X0 x0 = some (11, 0) then (some (mI X0 1108 x0)) else none)
def rmX11_fault : Room := { frames := 1, cells := 0, slots := 0, locals := 22 }
def fX11_fault (X0 : Mem)  (x0 : Nat) (x1 : Int32) : Option (String ⊕ (Int32)) :=
  (if mK X0 x0 = some (11, 0) then (bE (fX11_programAt X0 x0 x1) fun v2 => (Option.bind v2 fun a5_2 => (if mK X0 a5_2 = some (5, 0) then (some (.inr (mI X0 506 a5_2))) else none))) else none)
def rmX11_steps : Room := { frames := 1, cells := 0, slots := 0, locals := 22 }
def fX11_steps (X0 : Mem)  (x0 : Nat) (x1 : Int32) : Option (String ⊕ (Int32)) :=
  (if mK X0 x0 = some (11, 0) then (bE (fX11_programAt X0 x0 x1) fun v2 => (Option.bind v2 fun a5_2 => (if mK X0 a5_2 = some (5, 0) then (some (.inr (mI X0 507 a5_2))) else none))) else none)
def rmX11_strokes : Room := { frames := 1, cells := 0, slots := 0, locals := 22 }
def fX11_strokes (X0 : Mem)  (x0 : Nat) (x1 : Int32) : Option (String ⊕ (Int32)) :=
  (if mK X0 x0 = some (11, 0) then (bE (fX11_programAt X0 x0 x1) fun v2 => (Option.bind v2 fun a5_2 => (if mK X0 a5_2 = some (5, 0) then (Option.bind (mR X0 505 a5_2) fun a8_4 => (if mK X0 a8_4 = some (2, 0) then (some (.inr (mI X0 202 a8_4))) else none)) else none))) else none)
def rmX2_makeEmpty : Room := { frames := 0, cells := 0, slots := 0, locals := 0 }
def fX2_makeEmpty_L7b (fu : Nat) (rec7 : Mem → Nat → Int32 → Option (Mem)) (X : Mem) (x0 : Nat) (x1 : Int32) : Option (Mem) :=
  (if (16 : Int32) ≤ x1 then (some X) else (if mK X x0 = some (2, 0) then (Option.bind (mR X 200 x0) fun a18_2 => (Option.bind (alen X a18_2) fun n18_2 => (if (nI n18_2) ≤ x1 then (some X) else (Option.bind (mR X 201 x0) fun a27_4 => (Option.bind (alen X a27_4) fun n27_4 => (if (nI n27_4) ≤ x1 then (some X) else (Option.bind (mR X 200 x0) fun a37_6 => (if inb X 0 a37_6 x1 = true then (Option.bind (mR (sI X a37_6 x1.toNatClampNeg (0 : Int32)) 201 x0) fun a44_7 => (if inb (sI X a37_6 x1.toNatClampNeg (0 : Int32)) 0 a44_7 x1 = true then (rec7 (sI (sI X a37_6 x1.toNatClampNeg (0 : Int32)) a44_7 x1.toNatClampNeg (0 : Int32)) x0 (x1 + (1 : Int32))) else none)) else none)))))))) else none))
def fX2_makeEmpty_L7 (fu : Nat)  : Nat → Mem → Nat → Int32 → Option (Mem)
  | 0 => fun _ _ _ => none
  | n + 1 => fun X x0 x1 => fX2_makeEmpty_L7b fu (fX2_makeEmpty_L7 fu n) X x0 x1
def fX2_makeEmpty (fu : Nat)  (X : Mem) (x0 : Nat) : Option (Mem) :=
  (if mK X x0 = some (2, 0) then (fX2_makeEmpty_L7 fu fu (wI X 202 x0 (0 : Int32)) x0 (0 : Int32)) else none)
def rmX11_strokesBySteps : Room := { frames := 6, cells := 0, slots := 0, locals := 143 }
def fX11_strokesBySteps (fu : Nat)  (X0 : Mem) (x0 : Nat) (x1 : Int32) (x2 : Int32) : Option (String ⊕ (Int32 × Mem)) :=
  (if mK X0 x0 = some (11, 0) then (bE (fX11_programAt X0 x0 x1) fun v2 => (if x2 < 0 then (some (.inl "java/lang/IllegalArgumentException")) else (if x2 ≤ (600 : Int32) then (Option.bind (mR X0 1102 x0) fun a31_2 => (if mK X0 a31_2 = some (2, 0) then (Option.bind (fX2_makeEmpty fu X0 a31_2) fun X31 => (if mK X31 x0 = some (11, 0) then (Option.bind (mR X31 1101 x0) fun a44_5 => (if mK X31 a44_5 = some (7, 0) then (Option.bind (fX7_perform fu X31 a44_5 v2 (mR X31 1102 x0) x2) fun X44 => (if mK X44 x0 = some (11, 0) then (Option.bind (mR X44 1102 x0) fun a51_8 => (if mK X44 a51_8 = some (2, 0) then (some (.inr ((mI X44 202 a51_8), X44))) else none)) else none)) else none)) else none)) else none)) else (some (.inl "java/lang/IllegalArgumentException"))))) else none)
def rmX2_hasStroke : Room := { frames := 1, cells := 0, slots := 0, locals := 20 }
def fX2_hasStroke_L15 (X0 : Mem)  (x1 : Int32) (x2 : Int32) (s0 : Option Nat) : Option (Int32) :=
  (Option.bind (fX11_isOnGround X0 x1) fun v18 => (if v18 = 0 then (some (0 : Int32)) else (if x2 < 0 then (some (0 : Int32)) else (Option.bind s0 fun a31_1 => (Option.bind (alen X0 a31_1) fun n31_1 => (if (nI n31_1) ≤ x2 then (some (0 : Int32)) else (if inb X0 0 a31_1 x2 = true then (if (((aI X0 a31_1 x2.toNatClampNeg) >>> (x1 &&& 31)) &&& (1 : Int32)) = (1 : Int32) then (some (1 : Int32)) else (some (0 : Int32))) else none)))))))
def fX2_hasStroke (X0 : Mem)  (x0 : Nat) (x1 : Int32) (x2 : Int32) (x3 : Int32) : Option (Int32) :=
  (if x3 = 0 then (if mK X0 x0 = some (2, 0) then (fX2_hasStroke_L15 X0 x1 x2 (mR X0 200 x0)) else none) else (if mK X0 x0 = some (2, 0) then (fX2_hasStroke_L15 X0 x1 x2 (mR X0 201 x0)) else none))
def rmX11_isDrawn : Room := { frames := 2, cells := 0, slots := 0, locals := 44 }
def fX11_isDrawn (X0 : Mem)  (x0 : Nat) (x1 : Int32) (x2 : Int32) (x3 : Int32) (x4 : Int32) : Option (String ⊕ (Int32)) :=
  (if mK X0 x0 = some (11, 0) then (bE (fX11_programAt X0 x0 x1) fun v2 => (Option.bind (fX11_isOnGround X0 x2) fun v8 => (if v8 = 0 then (some (.inl "java/lang/IndexOutOfBoundsException")) else (Option.bind (fX11_isOnGround X0 x3) fun v15 => (if v15 = 0 then (some (.inl "java/lang/IndexOutOfBoundsException")) else (Option.bind v2 fun a33_2 => (if mK X0 a33_2 = some (5, 0) then (Option.bind (mR X0 505 a33_2) fun a40_4 => (if mK X0 a40_4 = some (2, 0) then (Option.bind (fX2_hasStroke X0 a40_4 x2 x3 x4) fun v40 => (if v40 = 0 ∨ v40 = 1 then (some (.inr v40)) else none)) else none)) else none))))))) else none)
def rmX11_areAlike : Room := { frames := 3, cells := 0, slots := 0, locals := 65 }
def fX11_areAlike (fu : Nat) (X0 : Mem)  (x0 : Nat) (x1 : Int32) (x2 : Int32) : Option (String ⊕ (Int32)) :=
  (if mK X0 x0 = some (11, 0) then (bE (fX11_programAt X0 x0 x1) fun v2 => (bE (fX11_programAt X0 x0 x2) fun v8 => (Option.bind v2 fun a14_2 => (if mK X0 a14_2 = some (5, 0) then (Option.bind v8 fun a19_4 => (if mK X0 a19_4 = some (5, 0) then (Option.bind (mR X0 505 a14_2) fun a22_6 => (if mK X0 a22_6 = some (2, 0) then (Option.bind (fX2_isShiftOf fu X0 a22_6 (mR X0 505 a19_4)) fun v22 => (if v22 = 0 ∨ v22 = 1 then (some (.inr v22)) else none)) else none)) else none)) else none)))) else none)
def rmX11_haveOneForm : Room := { frames := 1, cells := 0, slots := 0, locals := 22 }
def fX11_haveOneForm (fu : Nat) (X0 : Mem)  (x0 : Nat) (x1 : Int32) (x2 : Int32) : Option (String ⊕ (Int32)) :=
  (if mK X0 x0 = some (11, 0) then (bE (fX11_programAt X0 x0 x1) fun v2 => (bE (fX11_programAt X0 x0 x2) fun v8 => (Option.bind v2 fun a16_2 => (if mK X0 a16_2 = some (5, 0) then (Option.bind (fX5_hasFormOf fu X0 a16_2 v8) fun v16 => (if v16 = 0 ∨ v16 = 1 then (some (.inr v16)) else none)) else none)))) else none)
def rmJ9_max_7cf53 : Room := { frames := 0, cells := 0, slots := 0, locals := 0 }
def fJ9_max_7cf53 (X0 : Mem)  (x0 : Int32) (x1 : Int32) : Option (Int32) :=
  (if x0 < x1 then (some x1) else (some x0))
def rmX0_fillBelow : Room := { frames := 1, cells := 0, slots := 0, locals := 21 }
def fX0_fillBelow_L108 (fu : Nat) (rec18 : Mem → Nat → Int32 → (Option Nat) → Int32 → Int32 → Option (Mem)) (X : Mem) (x0 : Nat) (x1 : Int32) (x2 : Nat) (x3 : Int32) (x4 : Int32) : Option (Mem) :=
  (rec18 X x0 x1 (some x2) x3 (x4 + (1 : Int32)))
def fX0_fillBelow_L18b (fu : Nat) (rec18 : Mem → Nat → Int32 → (Option Nat) → Int32 → Int32 → Option (Mem)) (X : Mem) (x0 : Nat) (x1 : Int32) (x2 : Option Nat) (x3 : Int32) (x4 : Int32) : Option (Mem) :=
  (if x3 < x4 then (some X) else (if mK X x0 = some (0, 0) then (Option.bind (mR X 0 x0) fun a30_2 => (Option.bind (alen X a30_2) fun n30_2 => (if (nI n30_2) ≤ x4 then (some X) else (Option.bind (mR X 1 x0) fun a40_4 => (Option.bind (alen X a40_4) fun n40_4 => (if (nI n40_4) ≤ x4 then (some X) else (Option.bind x2 fun a47_6 => (Option.bind (alen X a47_6) fun n47_6 => (if (nI n47_6) < x4 then (some X) else (if inb X 0 a47_6 (x4 - (1 : Int32)) = true then (if (aI X a47_6 (x4 - (1 : Int32)).toNatClampNeg) = x1 then (Option.bind (mR X 0 x0) fun a75_10 => (if inb X 0 a75_10 (x4 - (1 : Int32)) = true then (Option.bind (mR X 1 x0) fun a78_11 => (if inb X 0 a78_11 x4 = true then (fX0_fillBelow_L108 fu rec18 (sI X a78_11 x4.toNatClampNeg ((aI X a75_10 (x4 - (1 : Int32)).toNatClampNeg) + (1 : Int32))) x0 x1 a47_6 x3 x4) else none)) else none)) else (Option.bind (mR X 0 x0) fun a94_8 => (if inb X 0 a94_8 x4 = true then (Option.bind (mR X 1 x0) fun a103_9 => (if inb X 0 a103_9 (x4 - (1 : Int32)) = true then (Option.bind (fJ9_max_7cf53 X (aI X a94_8 x4.toNatClampNeg) (aI X a103_9 (x4 - (1 : Int32)).toNatClampNeg)) fun v104 => (if inb X 0 a103_9 x4 = true then (fX0_fillBelow_L108 fu rec18 (sI X a103_9 x4.toNatClampNeg v104) x0 x1 a47_6 x3 x4) else none)) else none)) else none))) else none)))))))))) else none))
def fX0_fillBelow_L18 (fu : Nat)  : Nat → Mem → Nat → Int32 → (Option Nat) → Int32 → Int32 → Option (Mem)
  | 0 => fun _ _ _ _ _ _ => none
  | n + 1 => fun X x0 x1 x2 x3 x4 => fX0_fillBelow_L18b fu (fX0_fillBelow_L18 fu n) X x0 x1 x2 x3 x4
def fX0_fillBelow_L15 (fu : Nat)  (X : Mem) (x0 : Nat) (x1 : Int32) (x2 : Option Nat) (x3 : Int32) : Option (Mem) :=
  (fX0_fillBelow_L18 fu fu X x0 x1 x2 x3 (1 : Int32))
def fX0_fillBelow (fu : Nat)  (X : Mem) (x0 : Nat) (x1 : Int32) (x2 : Option Nat) (x3 : Int32) : Option (Mem) :=
  (if mK X x0 = some (0, 0) then (Option.bind (mR X 1 x0) fun a4_2 => (Option.bind (alen X a4_2) fun n4_2 => (if (nI n4_2) ≤ 0 then (fX0_fillBelow_L15 fu X x0 x1 x2 x3) else (Option.bind (mR X 1 x0) fun a14_4 => (if inb X 0 a14_4 (0 : Int32) = true then (fX0_fillBelow_L15 fu (sI X a14_4 (0 : Int32).toNatClampNeg (0 : Int32)) x0 x1 x2 x3) else none))))) else none)
def rmX0_longestCommon : Room := { frames := 2, cells := 0, slots := 0, locals := 45 }
def fX0_longestCommon_L51b (fu : Nat) (rec51 : Mem → Nat → (Option Nat) → Nat → Int32 → Int32 → Option (Int32 × Mem)) (X : Mem) (x0 : Nat) (x1 : Option Nat) (x2 : Nat) (x3 : Int32) (x4 : Int32) : Option (Int32 × Mem) :=
  (Option.bind x1 fun a54_1 => (Option.bind (alen X a54_1) fun n54_1 => (if (nI n54_1) ≤ x4 then (if x3 < 0 then (some ((0 : Int32), X)) else (if mK X x0 = some (0, 0) then (Option.bind (mR X 0 x0) fun a103_4 => (Option.bind (alen X a103_4) fun n103_4 => (if (nI n103_4) ≤ x3 then (some ((0 : Int32), X)) else (Option.bind (mR X 0 x0) fun a112_6 => (if inb X 0 a112_6 x3 = true then (some ((aI X a112_6 x3.toNatClampNeg), X)) else none))))) else none)) else (if inb X 0 a54_1 x4 = true then (if mK X x0 = some (0, 0) then (Option.bind (fX0_fillBelow fu X x0 (aI X a54_1 x4.toNatClampNeg) (some x2) x3) fun X65 => (if mK X65 x0 = some (0, 0) then (rec51 (wR (wR X65 0 x0 (mR X65 1 x0)) 1 x0 (mR X65 0 x0)) x0 (some a54_1) x2 x3 (x4 + (1 : Int32))) else none)) else none) else none))))
def fX0_longestCommon_L51 (fu : Nat)  : Nat → Mem → Nat → (Option Nat) → Nat → Int32 → Int32 → Option (Int32 × Mem)
  | 0 => fun _ _ _ _ _ _ => none
  | n + 1 => fun X x0 x1 x2 x3 x4 => fX0_longestCommon_L51b fu (fX0_longestCommon_L51 fu n) X x0 x1 x2 x3 x4
def fX0_longestCommon_L24b (fu : Nat) (rec24 : Mem → Nat → (Option Nat) → Nat → Int32 → Int32 → Option (Int32 × Mem)) (X : Mem) (x0 : Nat) (x1 : Option Nat) (x2 : Nat) (x3 : Int32) (x4 : Int32) : Option (Int32 × Mem) :=
  (if mK X x0 = some (0, 0) then (Option.bind (mR X 0 x0) fun a30_2 => (Option.bind (alen X a30_2) fun n30_2 => (if (nI n30_2) ≤ x4 then (fX0_longestCommon_L51 fu fu X x0 x1 x2 x3 (0 : Int32)) else (Option.bind (mR X 0 x0) fun a41_4 => (if inb X 0 a41_4 x4 = true then (rec24 (sI X a41_4 x4.toNatClampNeg (0 : Int32)) x0 x1 x2 x3 (x4 + (1 : Int32))) else none))))) else none)
def fX0_longestCommon_L24 (fu : Nat)  : Nat → Mem → Nat → (Option Nat) → Nat → Int32 → Int32 → Option (Int32 × Mem)
  | 0 => fun _ _ _ _ _ _ => none
  | n + 1 => fun X x0 x1 x2 x3 x4 => fX0_longestCommon_L24b fu (fX0_longestCommon_L24 fu n) X x0 x1 x2 x3 x4
def fX0_longestCommon (fu : Nat)  (X : Mem) (x0 : Nat) (x1 : Option Nat) (x2 : Option Nat) : Option (Int32 × Mem) :=
  (Option.bind x2 fun a1_1 => (Option.bind (alen X a1_1) fun n1_1 => (if mK X x0 = some (0, 0) then (Option.bind (mR X 0 x0) fun a6_4 => (Option.bind (alen X a6_4) fun n6_4 => (Option.bind (mR X 1 x0) fun a11_6 => (Option.bind (alen X a11_6) fun n11_6 => (Option.bind (fJ9_min_7cf53 X (nI n6_4) (nI n11_6)) fun v12 => (Option.bind (fJ9_min_7cf53 X (nI n1_1) (v12 - (1 : Int32))) fun v17 => (fX0_longestCommon_L24 fu fu X x0 x1 a1_1 v17 (0 : Int32)))))))) else none)))
def rmX11_likeness : Room := { frames := 3, cells := 0, slots := 0, locals := 70 }
def fX11_likeness (fu : Nat)  (X0 : Mem) (x0 : Nat) (x1 : Int32) (x2 : Int32) : Option (String ⊕ (Int32 × Mem)) :=
  (if mK X0 x0 = some (11, 0) then (bE (fX11_programAt X0 x0 x1) fun v2 => (bE (fX11_programAt X0 x0 x2) fun v8 => (Option.bind v2 fun a14_2 => (if mK X0 a14_2 = some (5, 0) then (Option.bind (fX5_length X0 a14_2) fun v14 => (Option.bind v8 fun a19_4 => (if mK X0 a19_4 = some (5, 0) then (Option.bind (fX5_length X0 a19_4) fun v19 => (if 0 < (v14 + v19) then (Option.bind (mR X0 1103 x0) fun a48_6 => (if mK X0 a48_6 = some (0, 0) then (bW (fX0_longestCommon fu X0 a48_6 (mR X0 504 a14_2) (mR X0 504 a19_4)) fun v48 X48 => (if (v14 + v19) = 0 then none else (some (.inr ((((200 : Int32) * v48) / (v14 + v19)), X48))))) else none)) else (some (.inr ((0 : Int32), X0))))) else none))) else none)))) else none)
def rmX11_works : Room := { frames := 0, cells := 0, slots := 0, locals := 0 }
def fX11_works (X0 : Mem)  (x0 : Nat) : Option (Int32) :=
  (if mK X0 x0 = some (11, 0) then (some (mI X0 1110 x0)) else none)
def rmX11_meets : Room := { frames := 5, cells := 0, slots := 0, locals := 106 }
def fX11_meets (fu : Nat) (X0 : Mem)  (x0 : Nat) (x1 : Int32) : Option (String ⊕ (Int32)) :=
  (if mK X0 x0 = some (11, 0) then (bE (fX11_workAt X0 x0 x1) fun v2 => (Option.bind v2 fun a5_2 => (if mK X0 a5_2 = some (10, 0) then (Option.bind (fX10_meetsExercise fu X0 a5_2) fun v5 => (if v5 = 0 ∨ v5 = 1 then (some (.inr v5)) else none)) else none))) else none)
def rmX11_copyOf : Room := { frames := 1, cells := 0, slots := 0, locals := 22 }
def fX11_copyOf (X0 : Mem)  (x0 : Nat) (x1 : Int32) : Option (String ⊕ (Int32)) :=
  (if mK X0 x0 = some (11, 0) then (bE (fX11_workAt X0 x0 x1) fun v2 => (Option.bind v2 fun a5_2 => (if mK X0 a5_2 = some (10, 0) then (some (.inr (mI X0 1002 a5_2))) else none))) else none)
def rmX11_hangs : Room := { frames := 1, cells := 0, slots := 0, locals := 22 }
def fX11_hangs (X0 : Mem)  (x0 : Nat) (x1 : Int32) : Option (String ⊕ (Int32)) :=
  (if mK X0 x0 = some (11, 0) then (bE (fX11_workAt X0 x0 x1) fun v2 => (Option.bind v2 fun a7_2 => (if mK X0 a7_2 = some (10, 0) then (if (mI X0 1004 a7_2) = 0 then (some (.inr (-1))) else (some (.inr (((100 : Int32) * (mI X0 1005 a7_2)) + (mI X0 1006 a7_2))))) else none))) else none)
def rmX9_hasCell : Room := { frames := 0, cells := 0, slots := 0, locals := 0 }
def fX9_hasCell (X0 : Mem)  (x0 : Nat) (x1 : Int32) (x2 : Int32) : Option (Int32) :=
  (if x1 < 0 then (some (0 : Int32)) else (if mK X0 x0 = some (9, 0) then (if (mI X0 901 x0) ≤ x1 then (some (0 : Int32)) else (if x2 < 0 then (some (0 : Int32)) else (if (mI X0 902 x0) ≤ x2 then (some (0 : Int32)) else (some (1 : Int32))))) else none))
def rmX10_covers : Room := { frames := 1, cells := 0, slots := 0, locals := 20 }
def fX10_covers (X0 : Mem)  (x0 : Nat) (x1 : Int32) (x2 : Int32) : Option (Int32) :=
  (if mK X0 x0 = some (10, 0) then (if (mI X0 1004 x0) = 0 then (some (0 : Int32)) else (if x1 < (mI X0 1005 x0) then (some (0 : Int32)) else (Option.bind (mR X0 1000 x0) fun a24_2 => (if mK X0 a24_2 = some (5, 0) then (Option.bind (mR X0 505 a24_2) fun a27_4 => (if mK X0 a27_4 = some (2, 0) then (Option.bind (fX2_cellsWide X0 a27_4) fun v27 => (if ((mI X0 1005 x0) + v27) ≤ x1 then (some (0 : Int32)) else (if x2 < (mI X0 1006 x0) then (some (0 : Int32)) else (Option.bind (mR X0 1000 x0) fun a51_6 => (if mK X0 a51_6 = some (5, 0) then (Option.bind (mR X0 505 a51_6) fun a54_8 => (if mK X0 a54_8 = some (2, 0) then (Option.bind (fX2_cellsHigh X0 a54_8) fun v54 => (if ((mI X0 1006 x0) + v54) ≤ x2 then (some (0 : Int32)) else (some (1 : Int32)))) else none)) else none))))) else none)) else none)))) else none)
def rmX11_onWall : Room := { frames := 2, cells := 0, slots := 0, locals := 42 }
def fX11_onWall_L66 (fu : Nat) (X0 : Mem) (rec24 : Nat → Int32 → Int32 → Int32 → Option (String ⊕ (Int32))) (x0 : Nat) (x1 : Int32) (x2 : Int32) (x3 : Int32) : Option (String ⊕ (Int32)) :=
  (rec24 x0 x1 x2 (x3 + (1 : Int32)))
def fX11_onWall_L24b (fu : Nat) (X0 : Mem) (rec24 : Nat → Int32 → Int32 → Int32 → Option (String ⊕ (Int32))) (x0 : Nat) (x1 : Int32) (x2 : Int32) (x3 : Int32) : Option (String ⊕ (Int32)) :=
  (if mK X0 x0 = some (11, 0) then (if (mI X0 1110 x0) ≤ x3 then (some (.inr (-1))) else (Option.bind (mR X0 1107 x0) fun a37_2 => (Option.bind (alen X0 a37_2) fun n37_2 => (if (nI n37_2) ≤ x3 then (some (.inr (-1))) else (Option.bind (mR X0 1107 x0) fun a46_4 => (if inb X0 6 a46_4 x3 = true then (if (aR X0 a46_4 x3.toNatClampNeg) = none then (fX11_onWall_L66 fu X0 rec24 x0 x1 x2 x3) else (Option.bind (aR X0 a46_4 x3.toNatClampNeg) fun a58_5 => (if mK X0 a58_5 = some (10, 0) then (Option.bind (fX10_covers X0 a58_5 x1 x2) fun v58 => (if v58 = 0 then (fX11_onWall_L66 fu X0 rec24 x0 x1 x2 x3) else (some (.inr x3)))) else none))) else none)))))) else none)
def fX11_onWall_L24 (fu : Nat) (X0 : Mem)  : Nat → Nat → Int32 → Int32 → Int32 → Option (String ⊕ (Int32))
  | 0 => fun _ _ _ _ => none
  | n + 1 => fun x0 x1 x2 x3 => fX11_onWall_L24b fu X0 (fX11_onWall_L24 fu X0 n) x0 x1 x2 x3
def fX11_onWall (fu : Nat) (X0 : Mem)  (x0 : Nat) (x1 : Int32) (x2 : Int32) : Option (String ⊕ (Int32)) :=
  (if mK X0 x0 = some (11, 0) then (Option.bind (mR X0 1104 x0) fun a6_2 => (if mK X0 a6_2 = some (9, 0) then (Option.bind (fX9_hasCell X0 a6_2 x1 x2) fun v6 => (if v6 = 0 then (some (.inl "java/lang/IndexOutOfBoundsException")) else (fX11_onWall_L24 fu X0 fu x0 x1 x2 (0 : Int32)))) else none)) else none)
def rmX11_hung : Room := { frames := 1, cells := 0, slots := 0, locals := 20 }
def fX11_hung_L61 (fu : Nat) (X0 : Mem) (rec8 : Nat → Int32 → Int32 → Int32 → Option (String ⊕ (Int32))) (x0 : Nat) (x1 : Int32) (x2 : Int32) (x3 : Int32) : Option (String ⊕ (Int32)) :=
  (rec8 x0 x1 x2 (x3 + (1 : Int32)))
def fX11_hung_L8b (fu : Nat) (X0 : Mem) (rec8 : Nat → Int32 → Int32 → Int32 → Option (String ⊕ (Int32))) (x0 : Nat) (x1 : Int32) (x2 : Int32) (x3 : Int32) : Option (String ⊕ (Int32)) :=
  (if mK X0 x0 = some (11, 0) then (if (mI X0 1110 x0) ≤ x3 then (some (.inr x2)) else (Option.bind (mR X0 1107 x0) fun a21_2 => (Option.bind (alen X0 a21_2) fun n21_2 => (if (nI n21_2) ≤ x3 then (some (.inr x2)) else (Option.bind (mR X0 1107 x0) fun a30_4 => (if inb X0 6 a30_4 x3 = true then (if (aR X0 a30_4 x3.toNatClampNeg) = none then (fX11_hung_L61 fu X0 rec8 x0 x1 x2 x3) else (Option.bind (aR X0 a30_4 x3.toNatClampNeg) fun a40_5 => (if mK X0 a40_5 = some (10, 0) then (if (mI X0 1004 a40_5) = 0 then (fX11_hung_L61 fu X0 rec8 x0 x1 x2 x3) else (Option.bind (mR X0 1000 a40_5) fun a51_7 => (if mK X0 a51_7 = some (5, 0) then (if (mI X0 500 a51_7) = x1 then (fX11_hung_L61 fu X0 rec8 x0 x1 (x2 + (1 : Int32)) x3) else (fX11_hung_L61 fu X0 rec8 x0 x1 x2 x3)) else none))) else none))) else none)))))) else none)
def fX11_hung_L8 (fu : Nat) (X0 : Mem)  : Nat → Nat → Int32 → Int32 → Int32 → Option (String ⊕ (Int32))
  | 0 => fun _ _ _ _ => none
  | n + 1 => fun x0 x1 x2 x3 => fX11_hung_L8b fu X0 (fX11_hung_L8 fu X0 n) x0 x1 x2 x3
def fX11_hung (fu : Nat) (X0 : Mem)  (x0 : Nat) (x1 : Int32) : Option (String ⊕ (Int32)) :=
  (bE (fX11_checkPupil X0 x1) fun v1 => (fX11_hung_L8 fu X0 fu x0 x1 (0 : Int32) (0 : Int32)))
