def fX12_thrown (X0 : SM)   : Option (Int32) :=
  (some (sc X0 0))
def fX12_holds  (X : SM) (x1 : Int32) : Option (Int32 × SM) :=
  (if x1 = 0 then (some ((1 : Int32), (uc X 0 x1))) else (some ((0 : Int32), (uc X 0 x1))))
def fX12_isIn (X0 : SM)  (x0 : Int32) (x1 : Int32) (x2 : Int32) : Option (Int32) :=
  (if x0 < x1 then (some (0 : Int32)) else (if x2 < x0 then (some (0 : Int32)) else (some (1 : Int32))))
def fX12_isName (X0 : SM)  (x0 : Int32) : Option (Int32) :=
  (Option.bind (fX12_isIn X0 x0 (0 : Int32) (3 : Int32)) fun v3 => (if v3 = 0 ∨ v3 = 1 then (some v3) else none))
def fX12_drafts  (X : SM) (x1 : Int32) (x2 : Int32) (x3 : Int32) (x4 : Int32) : Option (Int32 × SM) :=
  (if inS 0 0 (sc X 1) = true then (if inS 0 1 (sc (ua X 0 (sc X 1).toNatClampNeg x1) 1) = true then (if inS 0 2 (sc (ua (ua X 0 (sc X 1).toNatClampNeg x1) 1 (sc (ua X 0 (sc X 1).toNatClampNeg x1) 1).toNatClampNeg x2) 1) = true then (if inS 1 3 (sc (ua (ua (ua X 0 (sc X 1).toNatClampNeg x1) 1 (sc (ua X 0 (sc X 1).toNatClampNeg x1) 1).toNatClampNeg x2) 2 (sc (ua (ua X 0 (sc X 1).toNatClampNeg x1) 1 (sc (ua X 0 (sc X 1).toNatClampNeg x1) 1).toNatClampNeg x2) 1).toNatClampNeg x3) 1) = true then (if x4 = 0 ∨ x4 = 1 then (some ((sc (uc (ua (ua (ua (ua X 0 (sc X 1).toNatClampNeg x1) 1 (sc (ua X 0 (sc X 1).toNatClampNeg x1) 1).toNatClampNeg x2) 2 (sc (ua (ua X 0 (sc X 1).toNatClampNeg x1) 1 (sc (ua X 0 (sc X 1).toNatClampNeg x1) 1).toNatClampNeg x2) 1).toNatClampNeg x3) 3 (sc (ua (ua (ua X 0 (sc X 1).toNatClampNeg x1) 1 (sc (ua X 0 (sc X 1).toNatClampNeg x1) 1).toNatClampNeg x2) 2 (sc (ua (ua X 0 (sc X 1).toNatClampNeg x1) 1 (sc (ua X 0 (sc X 1).toNatClampNeg x1) 1).toNatClampNeg x2) 1).toNatClampNeg x3) 1).toNatClampNeg x4) 1 ((sc (ua (ua (ua (ua X 0 (sc X 1).toNatClampNeg x1) 1 (sc (ua X 0 (sc X 1).toNatClampNeg x1) 1).toNatClampNeg x2) 2 (sc (ua (ua X 0 (sc X 1).toNatClampNeg x1) 1 (sc (ua X 0 (sc X 1).toNatClampNeg x1) 1).toNatClampNeg x2) 1).toNatClampNeg x3) 3 (sc (ua (ua (ua X 0 (sc X 1).toNatClampNeg x1) 1 (sc (ua X 0 (sc X 1).toNatClampNeg x1) 1).toNatClampNeg x2) 2 (sc (ua (ua X 0 (sc X 1).toNatClampNeg x1) 1 (sc (ua X 0 (sc X 1).toNatClampNeg x1) 1).toNatClampNeg x2) 1).toNatClampNeg x3) 1).toNatClampNeg x4) 1) + (1 : Int32))) 1), (uc (ua (ua (ua (ua X 0 (sc X 1).toNatClampNeg x1) 1 (sc (ua X 0 (sc X 1).toNatClampNeg x1) 1).toNatClampNeg x2) 2 (sc (ua (ua X 0 (sc X 1).toNatClampNeg x1) 1 (sc (ua X 0 (sc X 1).toNatClampNeg x1) 1).toNatClampNeg x2) 1).toNatClampNeg x3) 3 (sc (ua (ua (ua X 0 (sc X 1).toNatClampNeg x1) 1 (sc (ua X 0 (sc X 1).toNatClampNeg x1) 1).toNatClampNeg x2) 2 (sc (ua (ua X 0 (sc X 1).toNatClampNeg x1) 1 (sc (ua X 0 (sc X 1).toNatClampNeg x1) 1).toNatClampNeg x2) 1).toNatClampNeg x3) 1).toNatClampNeg x4) 1 ((sc (ua (ua (ua (ua X 0 (sc X 1).toNatClampNeg x1) 1 (sc (ua X 0 (sc X 1).toNatClampNeg x1) 1).toNatClampNeg x2) 2 (sc (ua (ua X 0 (sc X 1).toNatClampNeg x1) 1 (sc (ua X 0 (sc X 1).toNatClampNeg x1) 1).toNatClampNeg x2) 1).toNatClampNeg x3) 3 (sc (ua (ua (ua X 0 (sc X 1).toNatClampNeg x1) 1 (sc (ua X 0 (sc X 1).toNatClampNeg x1) 1).toNatClampNeg x2) 2 (sc (ua (ua X 0 (sc X 1).toNatClampNeg x1) 1 (sc (ua X 0 (sc X 1).toNatClampNeg x1) 1).toNatClampNeg x2) 1).toNatClampNeg x3) 1).toNatClampNeg x4) 1) + (1 : Int32))))) else none) else none) else none) else none) else none)
def fX12_isValue_L68  (X : SM) (s1 : Int32) : Option (Int32 × SM) :=
  (bW (fX12_holds X s1) fun v68 X68 => (if v68 = 0 ∨ v68 = 1 then (some (v68, X68)) else none))
def fX12_isValue_L54  (X : SM)  : Option (Int32 × SM) :=
  (if (sc X 1) = (30 : Int32) then (fX12_isValue_L68 X (3 : Int32)) else (fX12_isValue_L68 X (0 : Int32)))
def fX12_isValue_L23  (X : SM) (x2 : Int32) (x3 : Int32) (x4 : Int32) (s0 : Int32) : Option (Int32 × SM) :=
  (if s0 = 0 then (fX12_isValue_L68 X (1 : Int32)) else (if x3 = 0 then (Option.bind (fX12_isIn X x2 x4 (99 : Int32)) fun v44 => (if v44 = 0 then (fX12_isValue_L68 X (2 : Int32)) else (fX12_isValue_L54 X))) else (fX12_isValue_L54 X)))
def fX12_isValue_L22  (X : SM) (x2 : Int32) (x3 : Int32) (x4 : Int32) : Option (Int32 × SM) :=
  (fX12_isValue_L23 X x2 x3 x4 (0 : Int32))
def fX12_isValue_L18  (X : SM) (x2 : Int32) (x3 : Int32) (x4 : Int32) : Option (Int32 × SM) :=
  (fX12_isValue_L23 X x2 x3 x4 (1 : Int32))
def fX12_isValue  (X : SM) (x1 : Int32) (x2 : Int32) (x3 : Int32) (x4 : Int32) : Option (Int32 × SM) :=
  (Option.bind (fX12_isName X x1) fun v1 => (if v1 = 0 then (fX12_isValue_L22 X x2 x3 x4) else (if x3 = 0 then (fX12_isValue_L18 X x2 x3 x4) else (Option.bind (fX12_isName X x2) fun v12 => (if v12 = 0 then (fX12_isValue_L22 X x2 x3 x4) else (fX12_isValue_L18 X x2 x3 x4))))))
def fX12_forward  (X : SM) (x1 : Int32) (x2 : Int32) : Option (Int32 × SM) :=
  (bW (fX12_isValue X (0 : Int32) x1 x2 (0 : Int32)) fun v5 X5 => (if v5 = 0 then (some ((0 : Int32), X5)) else (bW (fX12_drafts X5 (0 : Int32) (0 : Int32) x1 x2) fun v16 X16 => (some (v16, X16)))))
def fX12_turn  (X : SM) (x1 : Int32) (x2 : Int32) : Option (Int32 × SM) :=
  (bW (fX12_isValue X (0 : Int32) x1 x2 (0 : Int32)) fun v5 X5 => (if v5 = 0 then (some ((0 : Int32), X5)) else (bW (fX12_drafts X5 (1 : Int32) (0 : Int32) x1 x2) fun v16 X16 => (some (v16, X16)))))
def fX12_pen_L33  (X : SM) (s1 : Int32) (s2 : Int32) (s3 : Int32) : Option (Int32 × SM) :=
  (bW (fX12_drafts X s1 s2 s3 (0 : Int32)) fun v34 X34 => (some (v34, X34)))
def fX12_pen_L15  (X : SM) (x1 : Int32) (s1 : Int32) : Option (Int32 × SM) :=
  (bW (fX12_holds X s1) fun v15 X15 => (if v15 = 0 then (some ((0 : Int32), X15)) else (if x1 = 0 then (fX12_pen_L33 X15 (2 : Int32) (0 : Int32) (0 : Int32)) else (fX12_pen_L33 X15 (2 : Int32) (0 : Int32) (1 : Int32)))))
def fX12_pen  (X : SM) (x1 : Int32) : Option (Int32 × SM) :=
  (if (sc X 1) = (30 : Int32) then (fX12_pen_L15 X x1 (1 : Int32)) else (fX12_pen_L15 X x1 (0 : Int32)))
def fX12_set  (X : SM) (x1 : Int32) (x2 : Int32) (x3 : Int32) : Option (Int32 × SM) :=
  (bW (fX12_isValue X x1 x2 x3 (-99)) fun v6 X6 => (if v6 = 0 then (some ((0 : Int32), X6)) else (bW (fX12_drafts X6 (3 : Int32) x1 x2 x3) fun v17 X17 => (some (v17, X17)))))
def fX12_add  (X : SM) (x1 : Int32) (x2 : Int32) (x3 : Int32) : Option (Int32 × SM) :=
  (bW (fX12_isValue X x1 x2 x3 (-99)) fun v6 X6 => (if v6 = 0 then (some ((0 : Int32), X6)) else (bW (fX12_drafts X6 (4 : Int32) x1 x2 x3) fun v17 X17 => (some (v17, X17)))))
def fX12_repeat  (X : SM) (x1 : Int32) (x2 : Int32) : Option (Int32 × SM) :=
  (bW (fX12_isValue X (0 : Int32) x1 x2 (0 : Int32)) fun v5 X5 => (if v5 = 0 then (some ((0 : Int32), X5)) else (bW (fX12_drafts (uc X5 2 ((sc X5 2) + (1 : Int32))) (5 : Int32) (0 : Int32) x1 x2) fun v28 X28 => (some (v28, X28)))))
def fX12_word_L47  (X : SM) (x1 : Int32) (s1 : Int32) : Option (Int32 × SM) :=
  (bW (fX12_holds X s1) fun v47 X47 => (if v47 = 0 then (some ((0 : Int32), X47)) else (bW (fX12_drafts (uc (uc X47 2 ((sc X47 2) + (1 : Int32))) 3 ((sc (uc X47 2 ((sc X47 2) + (1 : Int32))) 3) ||| ((1 : Int32) <<< (x1 &&& 31)))) (6 : Int32) x1 (0 : Int32) (0 : Int32)) fun v83 X83 => (some (v83, X83)))))
def fX12_word_L42  (X : SM) (x1 : Int32) : Option (Int32 × SM) :=
  (fX12_word_L47 X x1 (2 : Int32))
def fX12_word  (X : SM) (x1 : Int32) : Option (Int32 × SM) :=
  (Option.bind (fX12_isName X x1) fun v1 => (if v1 = 0 then (fX12_word_L47 X x1 (1 : Int32)) else (if (sc X 1) = (30 : Int32) then (fX12_word_L42 X x1) else (if 0 < (sc X 2) then (fX12_word_L42 X x1) else (if (((sc X 3) >>> (x1 &&& 31)) &&& (1 : Int32)) = (1 : Int32) then (fX12_word_L42 X x1) else (fX12_word_L47 X x1 (0 : Int32)))))))
def fX12_call_L26  (X : SM) (x1 : Int32) (s1 : Int32) : Option (Int32 × SM) :=
  (bW (fX12_holds X s1) fun v26 X26 => (if v26 = 0 then (some ((0 : Int32), X26)) else (bW (fX12_drafts X26 (7 : Int32) x1 (0 : Int32) (0 : Int32)) fun v38 X38 => (some (v38, X38)))))
def fX12_call  (X : SM) (x1 : Int32) : Option (Int32 × SM) :=
  (Option.bind (fX12_isName X x1) fun v2 => (if v2 = 0 then (fX12_call_L26 X x1 (1 : Int32)) else (if (sc X 1) = (30 : Int32) then (fX12_call_L26 X x1 (2 : Int32)) else (fX12_call_L26 X x1 (0 : Int32)))))
def fX12_end_L22  (X : SM) (s1 : Int32) : Option (Int32 × SM) :=
  (bW (fX12_holds X s1) fun v22 X22 => (if v22 = 0 then (some ((0 : Int32), X22)) else (bW (fX12_drafts (uc X22 2 ((sc X22 2) - (1 : Int32))) (8 : Int32) (0 : Int32) (0 : Int32) (0 : Int32)) fun v46 X46 => (some ((sc X46 2), X46)))))
def fX12_end_L17  (X : SM)  : Option (Int32 × SM) :=
  (fX12_end_L22 X (1 : Int32))
def fX12_end  (X : SM)  : Option (Int32 × SM) :=
  (if (sc X 2) = 0 then (fX12_end_L17 X) else (if (sc X 1) = (30 : Int32) then (fX12_end_L17 X) else (fX12_end_L22 X (0 : Int32))))
def fX12_wipes  (X : SM)  : Option (Int32 × SM) :=
  (some ((sc X 1), (uc (uc (uc X 1 (0 : Int32)) 2 (0 : Int32)) 3 (0 : Int32))))
def fX12_wipe  (X : SM)  : Option (Int32 × SM) :=
  (bW (fX12_wipes (uc X 0 (0 : Int32))) fun v6 X6 => (some (v6, X6)))
def fX12_begins_L22b (fu : Nat) (rec22 : SM → Int32 → Int32 → Option (SM)) (X : SM) (x1 : Int32) (x2 : Int32) : Option (SM) :=
  (if (16 : Int32) ≤ x2 then (some (uc (uc (uc (uc (uc (uc (uc (uc (uc X 21 (8 : Int32)) 22 (8 : Int32)) 23 (0 : Int32)) 24 (1 : Int32)) 25 (0 : Int32)) 26 (0 : Int32)) 27 (0 : Int32)) 28 (0 : Int32)) 29 (0 : Int32))) else (if inS 0 13 (((16 : Int32) * x1) + x2) = true then (if inS 0 14 (((16 : Int32) * x1) + x2) = true then (rec22 (ua (ua X 13 (((16 : Int32) * x1) + x2).toNatClampNeg (0 : Int32)) 14 (((16 : Int32) * x1) + x2).toNatClampNeg (0 : Int32)) x1 (x2 + (1 : Int32))) else none) else none))
def fX12_begins_L22 (fu : Nat)  : Nat → SM → Int32 → Int32 → Option (SM)
  | 0 => fun _ _ _ => none
  | n + 1 => fun X x1 x2 => fX12_begins_L22b fu (fX12_begins_L22 fu n) X x1 x2
def fX12_begins_L2b (fu : Nat) (rec2 : SM → Int32 → Int32 → Option (SM)) (X : SM) (x1 : Int32) (x2 : Int32) : Option (SM) :=
  (if (4 : Int32) ≤ x2 then (fX12_begins_L22 fu fu X x1 (0 : Int32)) else (if inS 0 15 x2 = true then (rec2 (ua X 15 x2.toNatClampNeg (0 : Int32)) x1 (x2 + (1 : Int32))) else none))
def fX12_begins_L2 (fu : Nat)  : Nat → SM → Int32 → Int32 → Option (SM)
  | 0 => fun _ _ _ => none
  | n + 1 => fun X x1 x2 => fX12_begins_L2b fu (fX12_begins_L2 fu n) X x1 x2
def fX12_begins (fu : Nat)  (X : SM) (x1 : Int32) : Option (SM) :=
  (fX12_begins_L2 fu fu X x1 (0 : Int32))
def fX12_endOf_L57 (fu : Nat) (X0 : SM) (rec5 : Int32 → Int32 → Int32 → Option (Int32)) (x1 : Int32) (x3 : Int32) (s0 : Int32) (s1 : Int32) : Option (Int32) :=
  (rec5 x1 x3 (s0 + s1))
def fX12_endOf_L41 (fu : Nat) (X0 : SM) (rec5 : Int32 → Int32 → Int32 → Option (Int32)) (x1 : Int32) (x3 : Int32) (s0 : Int32) : Option (Int32) :=
  (fX12_endOf_L57 fu X0 rec5 x1 x3 s0 (1 : Int32))
def fX12_endOf_L5b (fu : Nat) (X0 : SM) (rec5 : Int32 → Int32 → Int32 → Option (Int32)) (x1 : Int32) (x3 : Int32) (x4 : Int32) : Option (Int32) :=
  (if x4 ≤ 0 then (some x3) else (if inS 0 6 (((30 : Int32) * x1) + (x3 + (1 : Int32))) = true then (if (ar X0 6 (((30 : Int32) * x1) + (x3 + (1 : Int32))).toNatClampNeg) = (5 : Int32) then (fX12_endOf_L41 fu X0 rec5 x1 (x3 + (1 : Int32)) x4) else (if (ar X0 6 (((30 : Int32) * x1) + (x3 + (1 : Int32))).toNatClampNeg) = (6 : Int32) then (fX12_endOf_L41 fu X0 rec5 x1 (x3 + (1 : Int32)) x4) else (if (ar X0 6 (((30 : Int32) * x1) + (x3 + (1 : Int32))).toNatClampNeg) = (8 : Int32) then (fX12_endOf_L57 fu X0 rec5 x1 (x3 + (1 : Int32)) x4 (-1)) else (fX12_endOf_L57 fu X0 rec5 x1 (x3 + (1 : Int32)) x4 (0 : Int32))))) else none))
def fX12_endOf_L5 (fu : Nat) (X0 : SM)  : Nat → Int32 → Int32 → Int32 → Option (Int32)
  | 0 => fun _ _ _ => none
  | n + 1 => fun x1 x3 x4 => fX12_endOf_L5b fu X0 (fX12_endOf_L5 fu X0 n) x1 x3 x4
def fX12_endOf (fu : Nat) (X0 : SM)  (x1 : Int32) (x2 : Int32) : Option (Int32) :=
  (fX12_endOf_L5 fu X0 fu x1 x2 (1 : Int32))
def fX12_ends_L133  (X : SM) (s1 : Int32) : Option (SM) :=
  (some (uc X 27 s1))
def fX12_ends_L99  (X : SM) (s1 : Int32) (s2 : Int32) : Option (SM) :=
  (if inS 0 17 (sc (uc X 29 (s1 - s2)) 28) = true then (if (ar (uc X 29 (s1 - s2)) 17 (sc (uc X 29 (s1 - s2)) 28).toNatClampNeg) = (-1) then (if inS 0 16 (sc (uc X 29 (s1 - s2)) 28) = true then (fX12_ends_L133 (uc X 29 (s1 - s2)) (ar (uc X 29 (s1 - s2)) 16 (sc (uc X 29 (s1 - s2)) 28).toNatClampNeg)) else none) else (fX12_ends_L133 (uc X 29 (s1 - s2)) (sc (uc X 29 (s1 - s2)) 27))) else none)
def fX12_ends_L32  (X : SM) (s1 : Int32) (s2 : Int32) (s3 : Int32) : Option (SM) :=
  (if inS 0 17 s1 = true then (if inS 0 17 ((sc (ua X 17 s1.toNatClampNeg (s2 - s3)) 28) - (1 : Int32)) = true then (if (ar (ua X 17 s1.toNatClampNeg (s2 - s3)) 17 ((sc (ua X 17 s1.toNatClampNeg (s2 - s3)) 28) - (1 : Int32)).toNatClampNeg) ≤ 0 then (if inS 0 17 (sc (uc (ua X 17 s1.toNatClampNeg (s2 - s3)) 28 ((sc (ua X 17 s1.toNatClampNeg (s2 - s3)) 28) - (1 : Int32))) 28) = true then (if (ar (uc (ua X 17 s1.toNatClampNeg (s2 - s3)) 28 ((sc (ua X 17 s1.toNatClampNeg (s2 - s3)) 28) - (1 : Int32))) 17 (sc (uc (ua X 17 s1.toNatClampNeg (s2 - s3)) 28 ((sc (ua X 17 s1.toNatClampNeg (s2 - s3)) 28) - (1 : Int32))) 28).toNatClampNeg) = (-1) then (fX12_ends_L99 (uc (ua X 17 s1.toNatClampNeg (s2 - s3)) 28 ((sc (ua X 17 s1.toNatClampNeg (s2 - s3)) 28) - (1 : Int32))) (sc (uc (ua X 17 s1.toNatClampNeg (s2 - s3)) 28 ((sc (ua X 17 s1.toNatClampNeg (s2 - s3)) 28) - (1 : Int32))) 29) (1 : Int32)) else (fX12_ends_L99 (uc (ua X 17 s1.toNatClampNeg (s2 - s3)) 28 ((sc (ua X 17 s1.toNatClampNeg (s2 - s3)) 28) - (1 : Int32))) (sc (uc (ua X 17 s1.toNatClampNeg (s2 - s3)) 28 ((sc (ua X 17 s1.toNatClampNeg (s2 - s3)) 28) - (1 : Int32))) 29) (0 : Int32))) else none) else (if inS 0 16 ((sc (ua X 17 s1.toNatClampNeg (s2 - s3)) 28) - (1 : Int32)) = true then (some (uc (ua X 17 s1.toNatClampNeg (s2 - s3)) 27 (ar (ua X 17 s1.toNatClampNeg (s2 - s3)) 16 ((sc (ua X 17 s1.toNatClampNeg (s2 - s3)) 28) - (1 : Int32)).toNatClampNeg))) else none)) else none) else none)
def fX12_ends  (X : SM)  : Option (SM) :=
  (if inS 0 17 ((sc X 28) - (1 : Int32)) = true then (if inS 0 17 ((sc X 28) - (1 : Int32)) = true then (if (ar X 17 ((sc X 28) - (1 : Int32)).toNatClampNeg) = (-1) then (fX12_ends_L32 X ((sc X 28) - (1 : Int32)) (ar X 17 ((sc X 28) - (1 : Int32)).toNatClampNeg) (0 : Int32)) else (fX12_ends_L32 X ((sc X 28) - (1 : Int32)) (ar X 17 ((sc X 28) - (1 : Int32)).toNatClampNeg) (1 : Int32))) else none) else none)
def fX12_counts  (X : SM)  : Option (Int32 × SM) :=
  (if (sc X 25) = (600 : Int32) then (some ((0 : Int32), (uc X 26 (1 : Int32)))) else (if inS 0 18 ((sc (uc X 25 ((sc X 25) + (1 : Int32))) 25) - (1 : Int32)) = true then (if inS 0 18 (sc (uc X 25 ((sc X 25) + (1 : Int32))) 25) = true then (some ((1 : Int32), (ua (uc X 25 ((sc X 25) + (1 : Int32))) 18 (sc (uc X 25 ((sc X 25) + (1 : Int32))) 25).toNatClampNeg (ar (uc X 25 ((sc X 25) + (1 : Int32))) 18 ((sc (uc X 25 ((sc X 25) + (1 : Int32))) 25) - (1 : Int32)).toNatClampNeg)))) else none) else none))
def fX12_isOn (X0 : SM)  (x0 : Int32) (x1 : Int32) : Option (Int32) :=
  (Option.bind (fX12_isIn X0 x0 (0 : Int32) (15 : Int32)) fun v4 => (if v4 = 0 then (some (0 : Int32)) else (Option.bind (fX12_isIn X0 x1 (0 : Int32) (15 : Int32)) fun v14 => (if v14 = 0 then (some (0 : Int32)) else (some (1 : Int32))))))
def fX12_draws_L138  (X : SM) (s1 : Int32) (s2 : Int32) (s3 : Int32) : Option (SM) :=
  (if inS 0 14 s1 = true then (if inS 0 18 (sc (ua X 14 s1.toNatClampNeg (s2 ||| s3)) 25) = true then (if inS 0 18 (sc (ua X 14 s1.toNatClampNeg (s2 ||| s3)) 25) = true then (some (ua (ua X 14 s1.toNatClampNeg (s2 ||| s3)) 18 (sc (ua X 14 s1.toNatClampNeg (s2 ||| s3)) 25).toNatClampNeg ((ar (ua X 14 s1.toNatClampNeg (s2 ||| s3)) 18 (sc (ua X 14 s1.toNatClampNeg (s2 ||| s3)) 25).toNatClampNeg) + (1 : Int32)))) else none) else none) else none)
def fX12_draws_L115  (X : SM) (x4 : Int32) (x6 : Int32) (x7 : Int32) (s1 : Int32) (s2 : Int32) (s3 : Int32) : Option (SM) :=
  (if inS 0 13 s1 = true then (if inS 0 14 x6 = true then (if x7 = 0 then (fX12_draws_L138 (ua X 13 s1.toNatClampNeg (s2 ||| s3)) x6 (ar (ua X 13 s1.toNatClampNeg (s2 ||| s3)) 14 x6.toNatClampNeg) ((1 : Int32) <<< (x4 &&& 31))) else (fX12_draws_L138 (ua X 13 s1.toNatClampNeg (s2 ||| s3)) x6 (ar (ua X 13 s1.toNatClampNeg (s2 ||| s3)) 14 x6.toNatClampNeg) (0 : Int32))) else none) else none)
def fX12_draws_L82  (X : SM) (x4 : Int32) (x6 : Int32) (x7 : Int32) (s0 : Int32) : Option (SM) :=
  (if ((s0 >>> (x4 &&& 31)) &&& (1 : Int32)) = 0 then (if inS 0 13 x6 = true then (if x7 = 0 then (fX12_draws_L115 X x4 x6 x7 x6 (ar X 13 x6.toNatClampNeg) (0 : Int32)) else (fX12_draws_L115 X x4 x6 x7 x6 (ar X 13 x6.toNatClampNeg) ((1 : Int32) <<< (x4 &&& 31)))) else none) else (some X))
def fX12_draws_L58  (X : SM) (x4 : Int32) (x6 : Int32) (s0 : Int32) : Option (SM) :=
  (if s0 = 0 then (if inS 0 14 x6 = true then (fX12_draws_L82 X x4 x6 s0 (ar X 14 x6.toNatClampNeg)) else none) else (if inS 0 13 x6 = true then (fX12_draws_L82 X x4 x6 s0 (ar X 13 x6.toNatClampNeg)) else none))
def fX12_draws_L34  (X : SM) (x1 : Int32) (x2 : Int32) (x4 : Int32) (s0 : Int32) : Option (SM) :=
  (if x2 = (sc X 21) then (fX12_draws_L58 X x4 (((16 : Int32) * x1) + s0) (0 : Int32)) else (fX12_draws_L58 X x4 (((16 : Int32) * x1) + s0) (1 : Int32)))
def fX12_draws_L16  (X : SM) (x1 : Int32) (x2 : Int32) (x3 : Int32) (s0 : Int32) : Option (SM) :=
  (if (sc X 22) ≤ x3 then (fX12_draws_L34 X x1 x2 s0 (sc X 22)) else (fX12_draws_L34 X x1 x2 s0 x3))
def fX12_draws  (X : SM) (x1 : Int32) (x2 : Int32) (x3 : Int32) : Option (SM) :=
  (if (sc X 21) ≤ x2 then (fX12_draws_L16 X x1 x2 x3 (sc X 21)) else (fX12_draws_L16 X x1 x2 x3 x2))
def fX12_goes_L108  (X : SM) (x2 : Int32) (x3 : Int32) : Option (SM) :=
  (some (uc (uc X 21 x2) 22 x3))
def fX12_goes_L87  (X : SM) (x1 : Int32) (x2 : Int32) (x3 : Int32) : Option (SM) :=
  (bW (fX12_counts X) fun v88 X88 => (if v88 = 0 then (some X88) else (if (sc X88 24) = 0 then (fX12_goes_L108 X88 x2 x3) else (Option.bind (fX12_draws X88 x1 x2 x3) fun X105 => (fX12_goes_L108 X105 x2 x3)))))
def fX12_goes_L59  (X : SM) (x1 : Int32) (x2 : Int32) (s0 : Int32) (s1 : Int32) : Option (SM) :=
  (if (600 : Int32) ≤ (sc X 25) then (fX12_goes_L87 X x1 x2 (s0 + s1)) else (Option.bind (fX12_isOn X x2 (s0 + s1)) fun v73 => (if v73 = 0 then (some (uc X 26 (2 : Int32))) else (fX12_goes_L87 X x1 x2 (s0 + s1)))))
def fX12_goes_L29  (X : SM) (x1 : Int32) (s0 : Int32) (s1 : Int32) : Option (SM) :=
  (if (sc X 23) = 0 then (fX12_goes_L59 X x1 (s0 + s1) (sc X 22) (1 : Int32)) else (if (sc X 23) = (2 : Int32) then (fX12_goes_L59 X x1 (s0 + s1) (sc X 22) (-1)) else (fX12_goes_L59 X x1 (s0 + s1) (sc X 22) (0 : Int32))))
def fX12_goes  (X : SM) (x1 : Int32) : Option (SM) :=
  (if (sc X 23) = (1 : Int32) then (fX12_goes_L29 X x1 (sc X 21) (1 : Int32)) else (if (sc X 23) = (3 : Int32) then (fX12_goes_L29 X x1 (sc X 21) (-1)) else (fX12_goes_L29 X x1 (sc X 21) (0 : Int32))))
def fX12_enters  (X : SM) (x1 : Int32) (x2 : Int32) : Option (SM) :=
  (if inS 0 16 (sc X 28) = true then (if inS 0 17 (sc (ua X 16 (sc X 28).toNatClampNeg x1) 28) = true then (some (uc (ua (ua X 16 (sc X 28).toNatClampNeg x1) 17 (sc (ua X 16 (sc X 28).toNatClampNeg x1) 28).toNatClampNeg x2) 28 ((sc (ua (ua X 16 (sc X 28).toNatClampNeg x1) 17 (sc (ua X 16 (sc X 28).toNatClampNeg x1) 28).toNatClampNeg x2) 28) + (1 : Int32)))) else none) else none)
def fX12_blockOf_L55 (fu : Nat) (X0 : SM) (rec5 : Int32 → Int32 → Int32 → Int32 → Option (Int32)) (x1 : Int32) (x2 : Int32) (x4 : Int32) (s0 : Int32) : Option (Int32) :=
  (rec5 x1 x2 s0 (x4 + (1 : Int32)))
def fX12_blockOf_L54 (fu : Nat) (X0 : SM) (rec5 : Int32 → Int32 → Int32 → Int32 → Option (Int32)) (x1 : Int32) (x2 : Int32) (x3 : Int32) (x4 : Int32) : Option (Int32) :=
  (fX12_blockOf_L55 fu X0 rec5 x1 x2 x4 x3)
def fX12_blockOf_L5b (fu : Nat) (X0 : SM) (rec5 : Int32 → Int32 → Int32 → Int32 → Option (Int32)) (x1 : Int32) (x2 : Int32) (x3 : Int32) (x4 : Int32) : Option (Int32) :=
  (if inS 0 5 x1 = true then (if (ar X0 5 x1.toNatClampNeg) ≤ x4 then (some x3) else (if inS 0 6 (((30 : Int32) * x1) + x4) = true then (if (ar X0 6 (((30 : Int32) * x1) + x4).toNatClampNeg) = (6 : Int32) then (if inS 0 7 (((30 : Int32) * x1) + x4) = true then (if (ar X0 7 (((30 : Int32) * x1) + x4).toNatClampNeg) = x2 then (fX12_blockOf_L55 fu X0 rec5 x1 x2 x4 x4) else (fX12_blockOf_L54 fu X0 rec5 x1 x2 x3 x4)) else none) else (fX12_blockOf_L54 fu X0 rec5 x1 x2 x3 x4)) else none)) else none)
def fX12_blockOf_L5 (fu : Nat) (X0 : SM)  : Nat → Int32 → Int32 → Int32 → Int32 → Option (Int32)
  | 0 => fun _ _ _ _ => none
  | n + 1 => fun x1 x2 x3 x4 => fX12_blockOf_L5b fu X0 (fX12_blockOf_L5 fu X0 n) x1 x2 x3 x4
def fX12_blockOf (fu : Nat) (X0 : SM)  (x1 : Int32) (x2 : Int32) : Option (Int32) :=
  (fX12_blockOf_L5 fu X0 fu x1 x2 (-1) (0 : Int32))
def fX12_callsWord_L31 (fu : Nat)  (X : SM) (x3 : Int32) (s1 : Int32) : Option (SM) :=
  (if (sc (uc X 26 s1) 26) = 0 then (Option.bind (fX12_enters (uc (uc X 26 s1) 29 ((sc (uc X 26 s1) 29) + (1 : Int32))) (sc (uc (uc X 26 s1) 29 ((sc (uc X 26 s1) 29) + (1 : Int32))) 27) (-1)) fun X57 => (some (uc X57 27 x3))) else (some (uc X 26 s1)))
def fX12_callsWord (fu : Nat)  (X : SM) (x1 : Int32) (x2 : Int32) : Option (SM) :=
  (Option.bind (fX12_blockOf fu X x1 x2) fun v3 => (if v3 = (-1) then (fX12_callsWord_L31 fu X v3 (5 : Int32)) else (if (sc X 29) = (8 : Int32) then (fX12_callsWord_L31 fu X v3 (4 : Int32)) else (fX12_callsWord_L31 fu X v3 (0 : Int32)))))
def fX12_does_L227 (fu : Nat)  (X : SM) (s1 : Int32) (s2 : Int32) : Option (SM) :=
  (if inS 0 15 s1 = true then (some (ua X 15 s1.toNatClampNeg s2)) else none)
def fX12_does_L191 (fu : Nat)  (X : SM) (x2 : Int32) (x5 : Int32) (s1 : Int32) : Option (SM) :=
  (if inS 0 7 x2 = true then (if (sc (uc X 26 s1) 26) = 0 then (fX12_does_L227 fu (uc X 26 s1) (ar (uc X 26 s1) 7 x2.toNatClampNeg) x5) else (if inS 0 7 x2 = true then (if inS 0 15 (ar (uc X 26 s1) 7 x2.toNatClampNeg) = true then (fX12_does_L227 fu (uc X 26 s1) (ar (uc X 26 s1) 7 x2.toNatClampNeg) (ar (uc X 26 s1) 15 (ar (uc X 26 s1) 7 x2.toNatClampNeg).toNatClampNeg)) else none) else none)) else none)
def fX12_does_L169 (fu : Nat)  (X : SM) (x2 : Int32) (s0 : Int32) : Option (SM) :=
  (Option.bind (fX12_isIn X s0 (-999) (999 : Int32)) fun v180 => (if v180 = 0 then (fX12_does_L191 fu X x2 s0 (3 : Int32)) else (fX12_does_L191 fu X x2 s0 (0 : Int32))))
def fX12_does_L146 (fu : Nat)  (X : SM) (x2 : Int32) (x3 : Int32) (x4 : Int32) : Option (SM) :=
  (if x4 = (3 : Int32) then (fX12_does_L169 fu X x2 x3) else (if inS 0 7 x2 = true then (if inS 0 15 (ar X 7 x2.toNatClampNeg) = true then (fX12_does_L169 fu X x2 ((ar X 15 (ar X 7 x2.toNatClampNeg).toNatClampNeg) + x3)) else none) else none))
def fX12_does_L257 (fu : Nat)  (X : SM) (x1 : Int32) (x2 : Int32) (x3 : Int32) (x4 : Int32) : Option (SM) :=
  (if x4 = (5 : Int32) then (Option.bind (fX12_enters X (sc X 27) x3) fun X269 => (some X269)) else (if inS 0 7 x2 = true then (Option.bind (fX12_callsWord fu X x1 (ar X 7 x2.toNatClampNeg)) fun X283 => (some X283)) else none))
def fX12_does_L128 (fu : Nat)  (X : SM) (s1 : Int32) : Option (SM) :=
  (if s1 = 0 ∨ s1 = 1 then (some (uc X 24 s1)) else none)
def fX12_does_L59b (fu : Nat) (rec59 : SM → Int32 → Int32 → Int32 → Option (SM)) (X : SM) (x1 : Int32) (x3 : Int32) (x5 : Int32) : Option (SM) :=
  (if x3 ≤ x5 then (some X) else (if (sc X 26) = 0 then (Option.bind (fX12_goes X x1) fun X74 => (rec59 X74 x1 x3 (x5 + (1 : Int32)))) else (some X)))
def fX12_does_L59 (fu : Nat)  : Nat → SM → Int32 → Int32 → Int32 → Option (SM)
  | 0 => fun _ _ _ _ => none
  | n + 1 => fun X x1 x3 x5 => fX12_does_L59b fu (fX12_does_L59 fu n) X x1 x3 x5
def fX12_does_L53 (fu : Nat)  (X : SM) (x1 : Int32) (x3 : Int32) (s1 : Int32) : Option (SM) :=
  (fX12_does_L59 fu fu (uc X 26 s1) x1 x3 (0 : Int32))
def fX12_does_L29 (fu : Nat)  (X : SM) (x1 : Int32) (x2 : Int32) (s0 : Int32) : Option (SM) :=
  (if inS 0 6 x2 = true then (if (ar X 6 x2.toNatClampNeg) = 0 then (if 0 ≤ s0 then (fX12_does_L53 fu X x1 s0 (0 : Int32)) else (fX12_does_L53 fu X x1 s0 (3 : Int32))) else (if (ar X 6 x2.toNatClampNeg) = (1 : Int32) then (some (uc X 23 (((((sc X 23) + s0) - ((sc X 23) + s0) / (4 : Int32) * (4 : Int32)) + (4 : Int32)) - ((((sc X 23) + s0) - ((sc X 23) + s0) / (4 : Int32) * (4 : Int32)) + (4 : Int32)) / (4 : Int32) * (4 : Int32)))) else (if (ar X 6 x2.toNatClampNeg) = (2 : Int32) then (if s0 = (1 : Int32) then (fX12_does_L128 fu X (1 : Int32)) else (fX12_does_L128 fu X (0 : Int32))) else (if (ar X 6 x2.toNatClampNeg) = (3 : Int32) then (fX12_does_L146 fu X x2 s0 (ar X 6 x2.toNatClampNeg)) else (if (ar X 6 x2.toNatClampNeg) = (4 : Int32) then (fX12_does_L146 fu X x2 s0 (ar X 6 x2.toNatClampNeg)) else (if (ar X 6 x2.toNatClampNeg) = (5 : Int32) then (if 0 < s0 then (fX12_does_L257 fu X x1 x2 s0 (ar X 6 x2.toNatClampNeg)) else (Option.bind (fX12_endOf fu X x1 (sc X 27)) fun v248 => (some (uc X 27 v248)))) else (fX12_does_L257 fu X x1 x2 s0 (ar X 6 x2.toNatClampNeg)))))))) else none)
def fX12_does (fu : Nat)  (X : SM) (x1 : Int32) (x2 : Int32) : Option (SM) :=
  (if inS 1 9 x2 = true then (if (ar X 9 x2.toNatClampNeg) = 0 then (if inS 0 8 x2 = true then (fX12_does_L29 fu X x1 x2 (ar X 8 x2.toNatClampNeg)) else none) else (if inS 0 8 x2 = true then (if inS 0 15 (ar X 8 x2.toNatClampNeg) = true then (fX12_does_L29 fu X x1 x2 (ar X 15 (ar X 8 x2.toNatClampNeg).toNatClampNeg)) else none) else none)) else none)
def fX12_runs_L93 (fu : Nat) (rec5 : SM → Int32 → Option (SM)) (X : SM) (x1 : Int32) : Option (SM) :=
  (rec5 (uc X 27 ((sc X 27) + (1 : Int32))) x1)
def fX12_runs_L5b (fu : Nat) (rec5 : SM → Int32 → Option (SM)) (X : SM) (x1 : Int32) : Option (SM) :=
  (if inS 0 5 x1 = true then (if (ar X 5 x1.toNatClampNeg) ≤ (sc X 27) then (some X) else (if (sc X 26) = 0 then (if inS 0 6 (((30 : Int32) * x1) + (sc X 27)) = true then (if (ar X 6 (((30 : Int32) * x1) + (sc X 27)).toNatClampNeg) = (6 : Int32) then (Option.bind (fX12_endOf fu X x1 (sc X 27)) fun v53 => (fX12_runs_L93 fu rec5 (uc X 27 v53) x1)) else (if inS 0 6 (((30 : Int32) * x1) + (sc X 27)) = true then (if (ar X 6 (((30 : Int32) * x1) + (sc X 27)).toNatClampNeg) = (8 : Int32) then (Option.bind (fX12_ends X) fun X74 => (fX12_runs_L93 fu rec5 X74 x1)) else (bW (fX12_counts X) fun v81 X81 => (if v81 = 0 then (fX12_runs_L93 fu rec5 X81 x1) else (Option.bind (fX12_does fu X81 x1 (((30 : Int32) * x1) + (sc X 27))) fun X90 => (fX12_runs_L93 fu rec5 X90 x1))))) else none)) else none) else (some X))) else none)
def fX12_runs_L5 (fu : Nat)  : Nat → SM → Int32 → Option (SM)
  | 0 => fun _ _ => none
  | n + 1 => fun X x1 => fX12_runs_L5b fu (fX12_runs_L5 fu n) X x1
def fX12_runs (fu : Nat)  (X : SM) (x1 : Int32) : Option (SM) :=
  (Option.bind (fX12_begins fu X x1) fun X2 => (fX12_runs_L5 fu fu X2 x1))
def fX12_write_L54b (fu : Nat) (rec54 : SM → Int32 → Int32 → Option (Int32 × SM)) (X : SM) (x1 : Int32) (x3 : Int32) : Option (Int32 × SM) :=
  (if (sc X 1) ≤ x3 then (if inS 0 4 (sc X 8) = true then (if inS 0 5 (sc (ua X 4 (sc X 8).toNatClampNeg x1) 8) = true then (bW (fX12_wipes (ua (ua X 4 (sc X 8).toNatClampNeg x1) 5 (sc (ua X 4 (sc X 8).toNatClampNeg x1) 8).toNatClampNeg (sc (ua X 4 (sc X 8).toNatClampNeg x1) 1))) fun v155 X155 => (Option.bind (fX12_runs fu (uc X155 8 ((sc X155 8) + (1 : Int32))) ((sc (uc X155 8 ((sc X155 8) + (1 : Int32))) 8) - (1 : Int32))) fun X176 => (if inS 0 10 ((sc X176 8) - (1 : Int32)) = true then (if inS 0 11 ((sc (ua X176 10 ((sc X176 8) - (1 : Int32)).toNatClampNeg (sc X176 26)) 8) - (1 : Int32)) = true then (if inS 0 18 (sc (ua (ua X176 10 ((sc X176 8) - (1 : Int32)).toNatClampNeg (sc X176 26)) 11 ((sc (ua X176 10 ((sc X176 8) - (1 : Int32)).toNatClampNeg (sc X176 26)) 8) - (1 : Int32)).toNatClampNeg (sc (ua X176 10 ((sc X176 8) - (1 : Int32)).toNatClampNeg (sc X176 26)) 25)) 25) = true then (if inS 0 12 ((sc (ua (ua X176 10 ((sc X176 8) - (1 : Int32)).toNatClampNeg (sc X176 26)) 11 ((sc (ua X176 10 ((sc X176 8) - (1 : Int32)).toNatClampNeg (sc X176 26)) 8) - (1 : Int32)).toNatClampNeg (sc (ua X176 10 ((sc X176 8) - (1 : Int32)).toNatClampNeg (sc X176 26)) 25)) 8) - (1 : Int32)) = true then (some (((sc (ua (ua (ua X176 10 ((sc X176 8) - (1 : Int32)).toNatClampNeg (sc X176 26)) 11 ((sc (ua X176 10 ((sc X176 8) - (1 : Int32)).toNatClampNeg (sc X176 26)) 8) - (1 : Int32)).toNatClampNeg (sc (ua X176 10 ((sc X176 8) - (1 : Int32)).toNatClampNeg (sc X176 26)) 25)) 12 ((sc (ua (ua X176 10 ((sc X176 8) - (1 : Int32)).toNatClampNeg (sc X176 26)) 11 ((sc (ua X176 10 ((sc X176 8) - (1 : Int32)).toNatClampNeg (sc X176 26)) 8) - (1 : Int32)).toNatClampNeg (sc (ua X176 10 ((sc X176 8) - (1 : Int32)).toNatClampNeg (sc X176 26)) 25)) 8) - (1 : Int32)).toNatClampNeg (ar (ua (ua X176 10 ((sc X176 8) - (1 : Int32)).toNatClampNeg (sc X176 26)) 11 ((sc (ua X176 10 ((sc X176 8) - (1 : Int32)).toNatClampNeg (sc X176 26)) 8) - (1 : Int32)).toNatClampNeg (sc (ua X176 10 ((sc X176 8) - (1 : Int32)).toNatClampNeg (sc X176 26)) 25)) 18 (sc (ua (ua X176 10 ((sc X176 8) - (1 : Int32)).toNatClampNeg (sc X176 26)) 11 ((sc (ua X176 10 ((sc X176 8) - (1 : Int32)).toNatClampNeg (sc X176 26)) 8) - (1 : Int32)).toNatClampNeg (sc (ua X176 10 ((sc X176 8) - (1 : Int32)).toNatClampNeg (sc X176 26)) 25)) 25).toNatClampNeg)) 8) - (1 : Int32)), (ua (ua (ua X176 10 ((sc X176 8) - (1 : Int32)).toNatClampNeg (sc X176 26)) 11 ((sc (ua X176 10 ((sc X176 8) - (1 : Int32)).toNatClampNeg (sc X176 26)) 8) - (1 : Int32)).toNatClampNeg (sc (ua X176 10 ((sc X176 8) - (1 : Int32)).toNatClampNeg (sc X176 26)) 25)) 12 ((sc (ua (ua X176 10 ((sc X176 8) - (1 : Int32)).toNatClampNeg (sc X176 26)) 11 ((sc (ua X176 10 ((sc X176 8) - (1 : Int32)).toNatClampNeg (sc X176 26)) 8) - (1 : Int32)).toNatClampNeg (sc (ua X176 10 ((sc X176 8) - (1 : Int32)).toNatClampNeg (sc X176 26)) 25)) 8) - (1 : Int32)).toNatClampNeg (ar (ua (ua X176 10 ((sc X176 8) - (1 : Int32)).toNatClampNeg (sc X176 26)) 11 ((sc (ua X176 10 ((sc X176 8) - (1 : Int32)).toNatClampNeg (sc X176 26)) 8) - (1 : Int32)).toNatClampNeg (sc (ua X176 10 ((sc X176 8) - (1 : Int32)).toNatClampNeg (sc X176 26)) 25)) 18 (sc (ua (ua X176 10 ((sc X176 8) - (1 : Int32)).toNatClampNeg (sc X176 26)) 11 ((sc (ua X176 10 ((sc X176 8) - (1 : Int32)).toNatClampNeg (sc X176 26)) 8) - (1 : Int32)).toNatClampNeg (sc (ua X176 10 ((sc X176 8) - (1 : Int32)).toNatClampNeg (sc X176 26)) 25)) 25).toNatClampNeg)))) else none) else none) else none) else none))) else none) else none) else (if inS 0 0 x3 = true then (if inS 0 6 (((30 : Int32) * (sc X 8)) + x3) = true then (if inS 0 1 x3 = true then (if inS 0 7 (((30 : Int32) * (sc X 8)) + x3) = true then (if inS 0 2 x3 = true then (if inS 0 8 (((30 : Int32) * (sc X 8)) + x3) = true then (if inS 1 3 x3 = true then (if inS 1 9 (((30 : Int32) * (sc X 8)) + x3) = true then (if (ar (ua (ua (ua X 6 (((30 : Int32) * (sc X 8)) + x3).toNatClampNeg (ar X 0 x3.toNatClampNeg)) 7 (((30 : Int32) * (sc X 8)) + x3).toNatClampNeg (ar (ua X 6 (((30 : Int32) * (sc X 8)) + x3).toNatClampNeg (ar X 0 x3.toNatClampNeg)) 1 x3.toNatClampNeg)) 8 (((30 : Int32) * (sc X 8)) + x3).toNatClampNeg (ar (ua (ua X 6 (((30 : Int32) * (sc X 8)) + x3).toNatClampNeg (ar X 0 x3.toNatClampNeg)) 7 (((30 : Int32) * (sc X 8)) + x3).toNatClampNeg (ar (ua X 6 (((30 : Int32) * (sc X 8)) + x3).toNatClampNeg (ar X 0 x3.toNatClampNeg)) 1 x3.toNatClampNeg)) 2 x3.toNatClampNeg)) 3 x3.toNatClampNeg) = 0 ∨ (ar (ua (ua (ua X 6 (((30 : Int32) * (sc X 8)) + x3).toNatClampNeg (ar X 0 x3.toNatClampNeg)) 7 (((30 : Int32) * (sc X 8)) + x3).toNatClampNeg (ar (ua X 6 (((30 : Int32) * (sc X 8)) + x3).toNatClampNeg (ar X 0 x3.toNatClampNeg)) 1 x3.toNatClampNeg)) 8 (((30 : Int32) * (sc X 8)) + x3).toNatClampNeg (ar (ua (ua X 6 (((30 : Int32) * (sc X 8)) + x3).toNatClampNeg (ar X 0 x3.toNatClampNeg)) 7 (((30 : Int32) * (sc X 8)) + x3).toNatClampNeg (ar (ua X 6 (((30 : Int32) * (sc X 8)) + x3).toNatClampNeg (ar X 0 x3.toNatClampNeg)) 1 x3.toNatClampNeg)) 2 x3.toNatClampNeg)) 3 x3.toNatClampNeg) = 1 then (rec54 (ua (ua (ua (ua X 6 (((30 : Int32) * (sc X 8)) + x3).toNatClampNeg (ar X 0 x3.toNatClampNeg)) 7 (((30 : Int32) * (sc X 8)) + x3).toNatClampNeg (ar (ua X 6 (((30 : Int32) * (sc X 8)) + x3).toNatClampNeg (ar X 0 x3.toNatClampNeg)) 1 x3.toNatClampNeg)) 8 (((30 : Int32) * (sc X 8)) + x3).toNatClampNeg (ar (ua (ua X 6 (((30 : Int32) * (sc X 8)) + x3).toNatClampNeg (ar X 0 x3.toNatClampNeg)) 7 (((30 : Int32) * (sc X 8)) + x3).toNatClampNeg (ar (ua X 6 (((30 : Int32) * (sc X 8)) + x3).toNatClampNeg (ar X 0 x3.toNatClampNeg)) 1 x3.toNatClampNeg)) 2 x3.toNatClampNeg)) 9 (((30 : Int32) * (sc X 8)) + x3).toNatClampNeg (ar (ua (ua (ua X 6 (((30 : Int32) * (sc X 8)) + x3).toNatClampNeg (ar X 0 x3.toNatClampNeg)) 7 (((30 : Int32) * (sc X 8)) + x3).toNatClampNeg (ar (ua X 6 (((30 : Int32) * (sc X 8)) + x3).toNatClampNeg (ar X 0 x3.toNatClampNeg)) 1 x3.toNatClampNeg)) 8 (((30 : Int32) * (sc X 8)) + x3).toNatClampNeg (ar (ua (ua X 6 (((30 : Int32) * (sc X 8)) + x3).toNatClampNeg (ar X 0 x3.toNatClampNeg)) 7 (((30 : Int32) * (sc X 8)) + x3).toNatClampNeg (ar (ua X 6 (((30 : Int32) * (sc X 8)) + x3).toNatClampNeg (ar X 0 x3.toNatClampNeg)) 1 x3.toNatClampNeg)) 2 x3.toNatClampNeg)) 3 x3.toNatClampNeg)) x1 (x3 + (1 : Int32))) else none) else none) else none) else none) else none) else none) else none) else none) else none))
def fX12_write_L54 (fu : Nat)  : Nat → SM → Int32 → Int32 → Option (Int32 × SM)
  | 0 => fun _ _ _ => none
  | n + 1 => fun X x1 x3 => fX12_write_L54b fu (fX12_write_L54 fu n) X x1 x3
def fX12_write_L44 (fu : Nat)  (X : SM) (x1 : Int32) (s1 : Int32) : Option (Int32 × SM) :=
  (bW (fX12_holds X s1) fun v44 X44 => (if v44 = 0 then (some ((0 : Int32), X44)) else (fX12_write_L54 fu fu X44 x1 (0 : Int32))))
def fX12_write_L39 (fu : Nat)  (X : SM) (x1 : Int32) : Option (Int32 × SM) :=
  (fX12_write_L44 fu X x1 (2 : Int32))
def fX12_write (fu : Nat)  (X : SM) (x1 : Int32) : Option (Int32 × SM) :=
  (Option.bind (fX12_isIn X x1 (0 : Int32) (5 : Int32)) fun v3 => (if v3 = 0 then (fX12_write_L44 fu X x1 (1 : Int32)) else (if (sc X 1) = 0 then (fX12_write_L39 fu X x1) else (if 0 < (sc X 2) then (fX12_write_L39 fu X x1) else (if (sc X 8) = (30 : Int32) then (fX12_write_L39 fu X x1) else (fX12_write_L44 fu X x1 (0 : Int32)))))))
def fX12_isProgram (X0 : SM)  (x1 : Int32) : Option (Int32) :=
  (Option.bind (fX12_isIn X0 x1 (0 : Int32) ((sc X0 8) - (1 : Int32))) fun v8 => (if v8 = 0 ∨ v8 = 1 then (some v8) else none))
def fX12_areLimits (X0 : SM)  (x0 : Int32) (x1 : Int32) : Option (Int32) :=
  (Option.bind (fX12_isIn X0 x0 (1 : Int32) (30 : Int32)) fun v4 => (if v4 = 0 then (some (0 : Int32)) else (Option.bind (fX12_isIn X0 x1 (0 : Int32) (600 : Int32)) fun v15 => (if v15 = 0 then (some (0 : Int32)) else (some (1 : Int32))))))
def fX12_exercise_L43  (X : SM) (x1 : Int32) (x2 : Int32) (x3 : Int32) (s1 : Int32) : Option (Int32 × SM) :=
  (bW (fX12_holds X s1) fun v43 X43 => (if v43 = 0 then (some ((0 : Int32), X43)) else (if inS 0 23 (sc X43 37) = true then (if inS 0 24 (sc (ua X43 23 (sc X43 37).toNatClampNeg x1) 37) = true then (if inS 0 25 (sc (ua (ua X43 23 (sc X43 37).toNatClampNeg x1) 24 (sc (ua X43 23 (sc X43 37).toNatClampNeg x1) 37).toNatClampNeg x2) 37) = true then (some (((sc (uc (ua (ua (ua X43 23 (sc X43 37).toNatClampNeg x1) 24 (sc (ua X43 23 (sc X43 37).toNatClampNeg x1) 37).toNatClampNeg x2) 25 (sc (ua (ua X43 23 (sc X43 37).toNatClampNeg x1) 24 (sc (ua X43 23 (sc X43 37).toNatClampNeg x1) 37).toNatClampNeg x2) 37).toNatClampNeg x3) 37 ((sc (ua (ua (ua X43 23 (sc X43 37).toNatClampNeg x1) 24 (sc (ua X43 23 (sc X43 37).toNatClampNeg x1) 37).toNatClampNeg x2) 25 (sc (ua (ua X43 23 (sc X43 37).toNatClampNeg x1) 24 (sc (ua X43 23 (sc X43 37).toNatClampNeg x1) 37).toNatClampNeg x2) 37).toNatClampNeg x3) 37) + (1 : Int32))) 37) - (1 : Int32)), (uc (ua (ua (ua X43 23 (sc X43 37).toNatClampNeg x1) 24 (sc (ua X43 23 (sc X43 37).toNatClampNeg x1) 37).toNatClampNeg x2) 25 (sc (ua (ua X43 23 (sc X43 37).toNatClampNeg x1) 24 (sc (ua X43 23 (sc X43 37).toNatClampNeg x1) 37).toNatClampNeg x2) 37).toNatClampNeg x3) 37 ((sc (ua (ua (ua X43 23 (sc X43 37).toNatClampNeg x1) 24 (sc (ua X43 23 (sc X43 37).toNatClampNeg x1) 37).toNatClampNeg x2) 25 (sc (ua (ua X43 23 (sc X43 37).toNatClampNeg x1) 24 (sc (ua X43 23 (sc X43 37).toNatClampNeg x1) 37).toNatClampNeg x2) 37).toNatClampNeg x3) 37) + (1 : Int32))))) else none) else none) else none)))
def fX12_exercise  (X : SM) (x1 : Int32) (x2 : Int32) (x3 : Int32) : Option (Int32 × SM) :=
  (Option.bind (fX12_isProgram X x1) fun v2 => (if v2 = 0 then (fX12_exercise_L43 X x1 x2 x3 (1 : Int32)) else (Option.bind (fX12_areLimits X x2 x3) fun v19 => (if v19 = 0 then (fX12_exercise_L43 X x1 x2 x3 (2 : Int32)) else (if (sc X 37) = (6 : Int32) then (fX12_exercise_L43 X x1 x2 x3 (3 : Int32)) else (fX12_exercise_L43 X x1 x2 x3 (0 : Int32)))))))
def fX12_isExercise (X0 : SM)  (x1 : Int32) : Option (Int32) :=
  (Option.bind (fX12_isIn X0 x1 (0 : Int32) ((sc X0 37) - (1 : Int32))) fun v8 => (if v8 = 0 ∨ v8 = 1 then (some v8) else none))
def fX12_leastOf_L113 (fu : Nat) (X0 : SM) (rec19 : Int32 → Int32 → Int32 → Int32 → Option (Int32)) (x1 : Int32) (x2 : Int32) (x4 : Int32) (s0 : Int32) : Option (Int32) :=
  (rec19 x1 x2 s0 (x4 + (1 : Int32)))
def fX12_leastOf_L112 (fu : Nat) (X0 : SM) (rec19 : Int32 → Int32 → Int32 → Int32 → Option (Int32)) (x1 : Int32) (x2 : Int32) (x3 : Int32) (x4 : Int32) : Option (Int32) :=
  (fX12_leastOf_L113 fu X0 rec19 x1 x2 x4 x3)
def fX12_leastOf_L94 (fu : Nat) (X0 : SM) (rec19 : Int32 → Int32 → Int32 → Int32 → Option (Int32)) (x1 : Int32) (x2 : Int32) (x3 : Int32) (x4 : Int32) (x5 : Int32) (s0 : Int32) : Option (Int32) :=
  (if x5 = 0 then (fX12_leastOf_L112 fu X0 rec19 x1 x2 x3 x4) else (if x3 ≤ s0 then (fX12_leastOf_L112 fu X0 rec19 x1 x2 x3 x4) else (fX12_leastOf_L113 fu X0 rec19 x1 x2 x4 s0)))
def fX12_leastOf_L75 (fu : Nat) (X0 : SM) (rec19 : Int32 → Int32 → Int32 → Int32 → Option (Int32)) (x1 : Int32) (x2 : Int32) (x3 : Int32) (x4 : Int32) (s0 : Int32) : Option (Int32) :=
  (if x2 = 0 then (fX12_leastOf_L94 fu X0 rec19 x1 x2 x3 x4 s0 (x4 / (16 : Int32))) else (fX12_leastOf_L94 fu X0 rec19 x1 x2 x3 x4 s0 (x4 - x4 / (16 : Int32) * (16 : Int32))))
def fX12_leastOf_L19b (fu : Nat) (X0 : SM) (rec19 : Int32 → Int32 → Int32 → Int32 → Option (Int32)) (x1 : Int32) (x2 : Int32) (x3 : Int32) (x4 : Int32) : Option (Int32) :=
  (if (256 : Int32) ≤ x4 then (some x3) else (if inS 0 13 (((16 : Int32) * x1) + (x4 / (16 : Int32))) = true then (if inS 0 14 (((16 : Int32) * x1) + (x4 / (16 : Int32))) = true then (if ((((ar X0 13 (((16 : Int32) * x1) + (x4 / (16 : Int32))).toNatClampNeg) ||| (ar X0 14 (((16 : Int32) * x1) + (x4 / (16 : Int32))).toNatClampNeg)) >>> ((x4 - x4 / (16 : Int32) * (16 : Int32)) &&& 31)) &&& (1 : Int32)) = (1 : Int32) then (fX12_leastOf_L75 fu X0 rec19 x1 x2 x3 x4 (1 : Int32)) else (fX12_leastOf_L75 fu X0 rec19 x1 x2 x3 x4 (0 : Int32))) else none) else none))
def fX12_leastOf_L19 (fu : Nat) (X0 : SM)  : Nat → Int32 → Int32 → Int32 → Int32 → Option (Int32)
  | 0 => fun _ _ _ _ => none
  | n + 1 => fun x1 x2 x3 x4 => fX12_leastOf_L19b fu X0 (fX12_leastOf_L19 fu X0 n) x1 x2 x3 x4
def fX12_leastOf_L15 (fu : Nat) (X0 : SM)  (x1 : Int32) (x2 : Int32) (s0 : Int32) : Option (Int32) :=
  (fX12_leastOf_L19 fu X0 fu x1 x2 s0 (0 : Int32))
def fX12_leastOf (fu : Nat) (X0 : SM)  (x1 : Int32) (x2 : Int32) : Option (Int32) :=
  (if inS 0 12 x1 = true then (if (ar X0 12 x1.toNatClampNeg) = 0 then (fX12_leastOf_L15 fu X0 x1 x2 (0 : Int32)) else (fX12_leastOf_L15 fu X0 x1 x2 (16 : Int32))) else none)
def fX12_alike_L216 (fu : Nat) (X0 : SM) (rec54 : Int32 → Int32 → Int32 → Int32 → Int32 → Int32 → Int32 → Int32 → Option (Int32)) (x1 : Int32) (x2 : Int32) (x3 : Int32) (x4 : Int32) (x5 : Int32) (x6 : Int32) (x8 : Int32) (s0 : Int32) : Option (Int32) :=
  (rec54 x1 x2 x3 x4 x5 x6 s0 (x8 + (1 : Int32)))
def fX12_alike_L215 (fu : Nat) (X0 : SM) (rec54 : Int32 → Int32 → Int32 → Int32 → Int32 → Int32 → Int32 → Int32 → Option (Int32)) (x1 : Int32) (x2 : Int32) (x3 : Int32) (x4 : Int32) (x5 : Int32) (x6 : Int32) (x8 : Int32) : Option (Int32) :=
  (fX12_alike_L216 fu X0 rec54 x1 x2 x3 x4 x5 x6 x8 (0 : Int32))
def fX12_alike_L208 (fu : Nat) (X0 : SM) (rec54 : Int32 → Int32 → Int32 → Int32 → Int32 → Int32 → Int32 → Int32 → Option (Int32)) (x1 : Int32) (x2 : Int32) (x3 : Int32) (x4 : Int32) (x5 : Int32) (x6 : Int32) (x8 : Int32) (s0 : Int32) (s1 : Int32) : Option (Int32) :=
  (if s0 = s1 then (fX12_alike_L216 fu X0 rec54 x1 x2 x3 x4 x5 x6 x8 (1 : Int32)) else (fX12_alike_L215 fu X0 rec54 x1 x2 x3 x4 x5 x6 x8))
def fX12_alike_L179 (fu : Nat) (X0 : SM) (rec54 : Int32 → Int32 → Int32 → Int32 → Int32 → Int32 → Int32 → Int32 → Option (Int32)) (x1 : Int32) (x2 : Int32) (x3 : Int32) (x4 : Int32) (x5 : Int32) (x6 : Int32) (x8 : Int32) (x10 : Int32) (x12 : Int32) (s0 : Int32) (s1 : Int32) : Option (Int32) :=
  (if s0 = s1 then (if (16 : Int32) ≤ (x6 + x8) then (fX12_alike_L208 fu X0 rec54 x1 x2 x3 x4 x5 x6 x8 x12 (0 : Int32)) else (if inS 0 14 x10 = true then (fX12_alike_L208 fu X0 rec54 x1 x2 x3 x4 x5 x6 x8 x12 ((ar X0 14 x10.toNatClampNeg) >>> (x5 &&& 31))) else none)) else (fX12_alike_L215 fu X0 rec54 x1 x2 x3 x4 x5 x6 x8))
def fX12_alike_L146 (fu : Nat) (X0 : SM) (rec54 : Int32 → Int32 → Int32 → Int32 → Int32 → Int32 → Int32 → Int32 → Option (Int32)) (x1 : Int32) (x2 : Int32) (x3 : Int32) (x4 : Int32) (x5 : Int32) (x6 : Int32) (x7 : Int32) (x8 : Int32) (x10 : Int32) (x11 : Int32) (s0 : Int32) : Option (Int32) :=
  (if x7 = 0 then (fX12_alike_L215 fu X0 rec54 x1 x2 x3 x4 x5 x6 x8) else (if (16 : Int32) ≤ (x6 + x8) then (fX12_alike_L179 fu X0 rec54 x1 x2 x3 x4 x5 x6 x8 x10 s0 x11 (0 : Int32)) else (if inS 0 13 x10 = true then (fX12_alike_L179 fu X0 rec54 x1 x2 x3 x4 x5 x6 x8 x10 s0 x11 ((ar X0 13 x10.toNatClampNeg) >>> (x5 &&& 31))) else none)))
def fX12_alike_L121 (fu : Nat) (X0 : SM) (rec54 : Int32 → Int32 → Int32 → Int32 → Int32 → Int32 → Int32 → Int32 → Option (Int32)) (x1 : Int32) (x2 : Int32) (x3 : Int32) (x4 : Int32) (x5 : Int32) (x6 : Int32) (x7 : Int32) (x8 : Int32) (x9 : Int32) (x10 : Int32) (s0 : Int32) : Option (Int32) :=
  (if (16 : Int32) ≤ (x4 + x8) then (fX12_alike_L146 fu X0 rec54 x1 x2 x3 x4 x5 x6 x7 x8 x10 s0 (0 : Int32)) else (if inS 0 14 x9 = true then (fX12_alike_L146 fu X0 rec54 x1 x2 x3 x4 x5 x6 x7 x8 x10 s0 ((ar X0 14 x9.toNatClampNeg) >>> (x3 &&& 31))) else none))
def fX12_alike_L74 (fu : Nat) (X0 : SM) (rec54 : Int32 → Int32 → Int32 → Int32 → Int32 → Int32 → Int32 → Int32 → Option (Int32)) (x1 : Int32) (x2 : Int32) (x3 : Int32) (x4 : Int32) (x5 : Int32) (x6 : Int32) (x7 : Int32) (x8 : Int32) : Option (Int32) :=
  (if (16 : Int32) ≤ (x4 + x8) then (fX12_alike_L121 fu X0 rec54 x1 x2 x3 x4 x5 x6 x7 x8 ((((16 : Int32) * x1) + x4) + x8) ((((16 : Int32) * x2) + x6) + x8) (0 : Int32)) else (if inS 0 13 ((((16 : Int32) * x1) + x4) + x8) = true then (fX12_alike_L121 fu X0 rec54 x1 x2 x3 x4 x5 x6 x7 x8 ((((16 : Int32) * x1) + x4) + x8) ((((16 : Int32) * x2) + x6) + x8) ((ar X0 13 ((((16 : Int32) * x1) + x4) + x8).toNatClampNeg) >>> (x3 &&& 31))) else none))
def fX12_alike_L54b (fu : Nat) (X0 : SM) (rec54 : Int32 → Int32 → Int32 → Int32 → Int32 → Int32 → Int32 → Int32 → Option (Int32)) (x1 : Int32) (x2 : Int32) (x3 : Int32) (x4 : Int32) (x5 : Int32) (x6 : Int32) (x7 : Int32) (x8 : Int32) : Option (Int32) :=
  (if (x8 + x4) < (16 : Int32) then (fX12_alike_L74 fu X0 rec54 x1 x2 x3 x4 x5 x6 x7 x8) else (if (16 : Int32) ≤ (x8 + x6) then (if x7 = 0 ∨ x7 = 1 then (some x7) else none) else (fX12_alike_L74 fu X0 rec54 x1 x2 x3 x4 x5 x6 x7 x8)))
def fX12_alike_L54 (fu : Nat) (X0 : SM)  : Nat → Int32 → Int32 → Int32 → Int32 → Int32 → Int32 → Int32 → Int32 → Option (Int32)
  | 0 => fun _ _ _ _ _ _ _ _ => none
  | n + 1 => fun x1 x2 x3 x4 x5 x6 x7 x8 => fX12_alike_L54b fu X0 (fX12_alike_L54 fu X0 n) x1 x2 x3 x4 x5 x6 x7 x8
def fX12_alike (fu : Nat) (X0 : SM)  (x1 : Int32) (x2 : Int32) : Option (Int32) :=
  (if inS 0 12 x1 = true then (if inS 0 12 x2 = true then (if (ar X0 12 x1.toNatClampNeg) = (ar X0 12 x2.toNatClampNeg) then (Option.bind (fX12_leastOf fu X0 x1 (1 : Int32)) fun v20 => (Option.bind (fX12_leastOf fu X0 x1 (0 : Int32)) fun v27 => (Option.bind (fX12_leastOf fu X0 x2 (1 : Int32)) fun v35 => (Option.bind (fX12_leastOf fu X0 x2 (0 : Int32)) fun v43 => (fX12_alike_L54 fu X0 fu x1 x2 v20 v27 v35 v43 (1 : Int32) (0 : Int32)))))) else (some (0 : Int32))) else none) else none)
def fX12_doesMeet_L58 (fu : Nat) (X0 : SM)  (x2 : Int32) (x3 : Int32) (s0 : Int32) : Option (Int32) :=
  (if s0 = 0 then (some (0 : Int32)) else (if inS 0 23 x3 = true then (Option.bind (fX12_alike fu X0 x2 (ar X0 23 x3.toNatClampNeg)) fun v73 => (if v73 = 0 then (some (0 : Int32)) else (some (1 : Int32)))) else none))
def fX12_doesMeet_L57 (fu : Nat) (X0 : SM)  (x2 : Int32) (x3 : Int32) : Option (Int32) :=
  (fX12_doesMeet_L58 fu X0 x2 x3 (0 : Int32))
def fX12_doesMeet (fu : Nat) (X0 : SM)  (x1 : Int32) : Option (Int32) :=
  (if inS 0 26 x1 = true then (if inS 0 27 x1 = true then (if inS 0 10 (ar X0 26 x1.toNatClampNeg) = true then (if (ar X0 10 (ar X0 26 x1.toNatClampNeg).toNatClampNeg) = 0 then (if inS 0 5 (ar X0 26 x1.toNatClampNeg) = true then (if inS 0 24 (ar X0 27 x1.toNatClampNeg) = true then (if (ar X0 24 (ar X0 27 x1.toNatClampNeg).toNatClampNeg) < (ar X0 5 (ar X0 26 x1.toNatClampNeg).toNatClampNeg) then (fX12_doesMeet_L57 fu X0 (ar X0 26 x1.toNatClampNeg) (ar X0 27 x1.toNatClampNeg)) else (if inS 0 11 (ar X0 26 x1.toNatClampNeg) = true then (if inS 0 25 (ar X0 27 x1.toNatClampNeg) = true then (if (ar X0 25 (ar X0 27 x1.toNatClampNeg).toNatClampNeg) < (ar X0 11 (ar X0 26 x1.toNatClampNeg).toNatClampNeg) then (fX12_doesMeet_L57 fu X0 (ar X0 26 x1.toNatClampNeg) (ar X0 27 x1.toNatClampNeg)) else (fX12_doesMeet_L58 fu X0 (ar X0 26 x1.toNatClampNeg) (ar X0 27 x1.toNatClampNeg) (1 : Int32))) else none) else none)) else none) else none) else (fX12_doesMeet_L57 fu X0 (ar X0 26 x1.toNatClampNeg) (ar X0 27 x1.toNatClampNeg))) else none) else none) else none)
def fX12_allow_L90 (fu : Nat) (rec54 : SM → Int32 → Int32 → Int32 → Option (Int32 × SM)) (X : SM) (x1 : Int32) (x5 : Int32) (s0 : Int32) (s1 : Int32) : Option (Int32 × SM) :=
  (rec54 X x1 (s0 + s1) (x5 + (1 : Int32)))
def fX12_allow_L89 (fu : Nat) (rec54 : SM → Int32 → Int32 → Int32 → Option (Int32 × SM)) (X : SM) (x1 : Int32) (x5 : Int32) (s0 : Int32) : Option (Int32 × SM) :=
  (fX12_allow_L90 fu rec54 X x1 x5 s0 (0 : Int32))
def fX12_allow_L54b (fu : Nat) (rec54 : SM → Int32 → Int32 → Int32 → Option (Int32 × SM)) (X : SM) (x1 : Int32) (x4 : Int32) (x5 : Int32) : Option (Int32 × SM) :=
  (if (sc X 41) ≤ x5 then (some (x4, X)) else (if inS 0 27 x5 = true then (if (ar X 27 x5.toNatClampNeg) = x1 then (Option.bind (fX12_doesMeet fu X x5) fun v79 => (if v79 = 0 then (fX12_allow_L89 fu rec54 X x1 x5 x4) else (fX12_allow_L90 fu rec54 X x1 x5 x4 (1 : Int32)))) else (fX12_allow_L89 fu rec54 X x1 x5 x4)) else none))
def fX12_allow_L54 (fu : Nat)  : Nat → SM → Int32 → Int32 → Int32 → Option (Int32 × SM)
  | 0 => fun _ _ _ _ => none
  | n + 1 => fun X x1 x4 x5 => fX12_allow_L54b fu (fX12_allow_L54 fu n) X x1 x4 x5
def fX12_allow_L26 (fu : Nat)  (X : SM) (x1 : Int32) (x2 : Int32) (x3 : Int32) (s1 : Int32) : Option (Int32 × SM) :=
  (bW (fX12_holds X s1) fun v26 X26 => (if v26 = 0 then (some ((0 : Int32), X26)) else (if inS 0 24 x1 = true then (if inS 0 25 x1 = true then (fX12_allow_L54 fu fu (ua (ua X26 24 x1.toNatClampNeg x2) 25 x1.toNatClampNeg x3) x1 (0 : Int32) (0 : Int32)) else none) else none)))
def fX12_allow (fu : Nat)  (X : SM) (x1 : Int32) (x2 : Int32) (x3 : Int32) : Option (Int32 × SM) :=
  (Option.bind (fX12_isExercise X x1) fun v3 => (if v3 = 0 then (fX12_allow_L26 fu X x1 x2 x3 (1 : Int32)) else (Option.bind (fX12_areLimits X x2 x3) fun v15 => (if v15 = 0 then (fX12_allow_L26 fu X x1 x2 x3 (2 : Int32)) else (fX12_allow_L26 fu X x1 x2 x3 (0 : Int32))))))
def fX12_handIn_L45  (X : SM) (x1 : Int32) (x2 : Int32) (s1 : Int32) : Option (Int32 × SM) :=
  (bW (fX12_holds X s1) fun v45 X45 => (if v45 = 0 then (some ((0 : Int32), X45)) else (if inS 0 26 (sc X45 41) = true then (if inS 0 27 (sc (ua X45 26 (sc X45 41).toNatClampNeg x1) 41) = true then (some (((sc (uc (ua (ua X45 26 (sc X45 41).toNatClampNeg x1) 27 (sc (ua X45 26 (sc X45 41).toNatClampNeg x1) 41).toNatClampNeg x2) 41 ((sc (ua (ua X45 26 (sc X45 41).toNatClampNeg x1) 27 (sc (ua X45 26 (sc X45 41).toNatClampNeg x1) 41).toNatClampNeg x2) 41) + (1 : Int32))) 41) - (1 : Int32)), (uc (ua (ua X45 26 (sc X45 41).toNatClampNeg x1) 27 (sc (ua X45 26 (sc X45 41).toNatClampNeg x1) 41).toNatClampNeg x2) 41 ((sc (ua (ua X45 26 (sc X45 41).toNatClampNeg x1) 27 (sc (ua X45 26 (sc X45 41).toNatClampNeg x1) 41).toNatClampNeg x2) 41) + (1 : Int32))))) else none) else none)))
def fX12_handIn_L21  (X : SM) (x1 : Int32) (x2 : Int32) (s0 : Int32) : Option (Int32 × SM) :=
  (if s0 = 0 then (fX12_handIn_L45 X x1 x2 (1 : Int32)) else (if (sc X 41) = (24 : Int32) then (fX12_handIn_L45 X x1 x2 (2 : Int32)) else (fX12_handIn_L45 X x1 x2 (0 : Int32))))
def fX12_handIn_L20  (X : SM) (x1 : Int32) (x2 : Int32) : Option (Int32 × SM) :=
  (fX12_handIn_L21 X x1 x2 (0 : Int32))
def fX12_handIn  (X : SM) (x1 : Int32) (x2 : Int32) : Option (Int32 × SM) :=
  (Option.bind (fX12_isProgram X x1) fun v2 => (if v2 = 0 then (fX12_handIn_L20 X x1 x2) else (Option.bind (fX12_isExercise X x2) fun v10 => (if v10 = 0 then (fX12_handIn_L20 X x1 x2) else (fX12_handIn_L21 X x1 x2 (1 : Int32))))))
def fX12_isWork (X0 : SM)  (x1 : Int32) : Option (Int32) :=
  (Option.bind (fX12_isIn X0 x1 (0 : Int32) ((sc X0 41) - (1 : Int32))) fun v8 => (if v8 = 0 ∨ v8 = 1 then (some v8) else none))
def fX12_clear_L14  (X : SM) (x1 : Int32) (x2 : Int32) (s1 : Int32) : Option (Int32 × SM) :=
  (bW (fX12_holds X s1) fun v14 X14 => (if v14 = 0 then (some ((0 : Int32), X14)) else (if inS 1 28 x1 = true then (if inS 1 28 x1 = true then (if x2 = 0 ∨ x2 = 1 then (if (ar X14 28 x1.toNatClampNeg) = 0 ∨ (ar X14 28 x1.toNatClampNeg) = 1 then (some ((ar X14 28 x1.toNatClampNeg), (ua X14 28 x1.toNatClampNeg x2))) else none) else none) else none) else none)))
def fX12_clear  (X : SM) (x1 : Int32) (x2 : Int32) : Option (Int32 × SM) :=
  (Option.bind (fX12_isWork X x1) fun v3 => (if v3 = 0 then (fX12_clear_L14 X x1 x2 (1 : Int32)) else (fX12_clear_L14 X x1 x2 (0 : Int32))))
def fX12_anew_L46 (fu : Nat)  (X : SM) (x0 : Nat) (x1 : Int32) (s0 : Nat) (s1 : Int32) (s2 : Int32) : Option (Int32 × SM) :=
  (if inS 0 s0 s1 = true then (if inS 0 x0 x1 = true then (some ((ar (ua X s0 s1.toNatClampNeg s2) x0 x1.toNatClampNeg), (ua X s0 s1.toNatClampNeg s2))) else none) else none)
def fX12_anew_L22 (fu : Nat) (rec4 : SM → Nat → Int32 → Int32 → Int32 → Option (Int32 × SM)) (X : SM) (x0 : Nat) (x1 : Int32) (x3 : Int32) (s0 : Int32) (s1 : Int32) : Option (Int32 × SM) :=
  (rec4 X x0 x1 (s0 + s1) (x3 + (1 : Int32)))
def fX12_anew_L4b (fu : Nat) (rec4 : SM → Nat → Int32 → Int32 → Int32 → Option (Int32 × SM)) (X : SM) (x0 : Nat) (x1 : Int32) (x2 : Int32) (x3 : Int32) : Option (Int32 × SM) :=
  (if (4 : Int32) ≤ x3 then (if inS 0 x0 x1 = true then (if (ar X x0 x1.toNatClampNeg) = (-1) then (fX12_anew_L46 fu X x0 x1 x0 x1 x2) else (if inS 0 x0 x1 = true then (fX12_anew_L46 fu X x0 x1 x0 x1 (ar X x0 x1.toNatClampNeg)) else none)) else none) else (if inS 0 x0 x3 = true then (if (ar X x0 x3.toNatClampNeg) = (-1) then (fX12_anew_L22 fu rec4 X x0 x1 x3 x2 (0 : Int32)) else (fX12_anew_L22 fu rec4 X x0 x1 x3 x2 (1 : Int32))) else none))
def fX12_anew_L4 (fu : Nat)  : Nat → SM → Nat → Int32 → Int32 → Int32 → Option (Int32 × SM)
  | 0 => fun _ _ _ _ _ => none
  | n + 1 => fun X x0 x1 x2 x3 => fX12_anew_L4b fu (fX12_anew_L4 fu n) X x0 x1 x2 x3
def fX12_anew (fu : Nat)  (X : SM) (x0 : Nat) (x1 : Int32) : Option (Int32 × SM) :=
  (fX12_anew_L4 fu fu X x0 x1 (0 : Int32) (0 : Int32))
def fX12_lays_L160 (fu : Nat) (rec29 : SM → Int32 → Int32 → Int32 → Option (SM)) (X : SM) (x1 : Int32) (x2 : Int32) (x3 : Int32) (x5 : Int32) (x6 : Int32) (s0 : Int32) : Option (SM) :=
  (if inS 0 19 (((30 : Int32) * x2) + x3) = true then (rec29 (ua X 19 (((30 : Int32) * x2) + x3).toNatClampNeg ((((10000 : Int32) * x5) + ((1000 : Int32) * x6)) + s0)) x1 x2 (x3 + (1 : Int32))) else none)
def fX12_lays_L117 (fu : Nat) (rec29 : SM → Int32 → Int32 → Int32 → Option (SM)) (X : SM) (x1 : Int32) (x2 : Int32) (x3 : Int32) (x4 : Int32) (x5 : Int32) (s0 : Int32) : Option (SM) :=
  (if inS 1 9 x4 = true then (if (ar X 9 x4.toNatClampNeg) = 0 then (if inS 0 8 x4 = true then (fX12_lays_L160 fu rec29 X x1 x2 x3 x5 s0 ((100 : Int32) + (ar X 8 x4.toNatClampNeg))) else none) else (if inS 0 8 x4 = true then (bW (fX12_anew fu X 20 (ar X 8 x4.toNatClampNeg)) fun v143 X143 => (fX12_lays_L160 fu rec29 X143 x1 x2 x3 x5 s0 ((500 : Int32) + v143))) else none)) else none)
def fX12_lays_L68 (fu : Nat) (rec29 : SM → Int32 → Int32 → Int32 → Option (SM)) (X : SM) (x1 : Int32) (x2 : Int32) (x3 : Int32) (x4 : Int32) (x5 : Int32) : Option (SM) :=
  (if inS 0 7 x4 = true then (bW (fX12_anew fu X 20 (ar X 7 x4.toNatClampNeg)) fun v79 X79 => (fX12_lays_L117 fu rec29 X79 x1 x2 x3 x4 x5 v79)) else none)
def fX12_lays_L99 (fu : Nat) (rec29 : SM → Int32 → Int32 → Int32 → Option (SM)) (X : SM) (x1 : Int32) (x2 : Int32) (x3 : Int32) (x4 : Int32) (x5 : Int32) : Option (SM) :=
  (if inS 0 7 x4 = true then (bW (fX12_anew fu X 21 (ar X 7 x4.toNatClampNeg)) fun v110 X110 => (fX12_lays_L117 fu rec29 X110 x1 x2 x3 x4 x5 v110)) else none)
def fX12_lays_L29b (fu : Nat) (rec29 : SM → Int32 → Int32 → Int32 → Option (SM)) (X : SM) (x1 : Int32) (x2 : Int32) (x3 : Int32) : Option (SM) :=
  (if inS 0 5 x1 = true then (if (ar X 5 x1.toNatClampNeg) ≤ x3 then (some X) else (if inS 0 6 (((30 : Int32) * x1) + x3) = true then (if (ar X 6 (((30 : Int32) * x1) + x3).toNatClampNeg) = (3 : Int32) then (fX12_lays_L68 fu rec29 X x1 x2 x3 (((30 : Int32) * x1) + x3) (ar X 6 (((30 : Int32) * x1) + x3).toNatClampNeg)) else (if (ar X 6 (((30 : Int32) * x1) + x3).toNatClampNeg) = (4 : Int32) then (fX12_lays_L68 fu rec29 X x1 x2 x3 (((30 : Int32) * x1) + x3) (ar X 6 (((30 : Int32) * x1) + x3).toNatClampNeg)) else (if (ar X 6 (((30 : Int32) * x1) + x3).toNatClampNeg) = (6 : Int32) then (fX12_lays_L99 fu rec29 X x1 x2 x3 (((30 : Int32) * x1) + x3) (ar X 6 (((30 : Int32) * x1) + x3).toNatClampNeg)) else (if (ar X 6 (((30 : Int32) * x1) + x3).toNatClampNeg) = (7 : Int32) then (fX12_lays_L99 fu rec29 X x1 x2 x3 (((30 : Int32) * x1) + x3) (ar X 6 (((30 : Int32) * x1) + x3).toNatClampNeg)) else (fX12_lays_L117 fu rec29 X x1 x2 x3 (((30 : Int32) * x1) + x3) (ar X 6 (((30 : Int32) * x1) + x3).toNatClampNeg) (0 : Int32)))))) else none)) else none)
def fX12_lays_L29 (fu : Nat)  : Nat → SM → Int32 → Int32 → Int32 → Option (SM)
  | 0 => fun _ _ _ _ => none
  | n + 1 => fun X x1 x2 x3 => fX12_lays_L29b fu (fX12_lays_L29 fu n) X x1 x2 x3
def fX12_lays_L2b (fu : Nat) (rec2 : SM → Int32 → Int32 → Int32 → Option (SM)) (X : SM) (x1 : Int32) (x2 : Int32) (x3 : Int32) : Option (SM) :=
  (if (4 : Int32) ≤ x3 then (fX12_lays_L29 fu fu X x1 x2 (0 : Int32)) else (if inS 0 20 x3 = true then (if inS 0 21 x3 = true then (rec2 (ua (ua X 20 x3.toNatClampNeg (-1)) 21 x3.toNatClampNeg (-1)) x1 x2 (x3 + (1 : Int32))) else none) else none))
def fX12_lays_L2 (fu : Nat)  : Nat → SM → Int32 → Int32 → Int32 → Option (SM)
  | 0 => fun _ _ _ _ => none
  | n + 1 => fun X x1 x2 x3 => fX12_lays_L2b fu (fX12_lays_L2 fu n) X x1 x2 x3
def fX12_lays (fu : Nat)  (X : SM) (x1 : Int32) (x2 : Int32) : Option (SM) :=
  (fX12_lays_L2 fu fu X x1 x2 (0 : Int32))
def fX12_oneForm_L76 (fu : Nat) (rec36 : SM → Int32 → Int32 → Int32 → Option (Int32 × SM)) (X : SM) (x1 : Int32) (x4 : Int32) (s0 : Int32) : Option (Int32 × SM) :=
  (rec36 X x1 s0 (x4 + (1 : Int32)))
def fX12_oneForm_L75 (fu : Nat) (rec36 : SM → Int32 → Int32 → Int32 → Option (Int32 × SM)) (X : SM) (x1 : Int32) (x4 : Int32) : Option (Int32 × SM) :=
  (fX12_oneForm_L76 fu rec36 X x1 x4 (0 : Int32))
def fX12_oneForm_L36b (fu : Nat) (rec36 : SM → Int32 → Int32 → Int32 → Option (Int32 × SM)) (X : SM) (x1 : Int32) (x3 : Int32) (x4 : Int32) : Option (Int32 × SM) :=
  (if inS 0 5 x1 = true then (if (ar X 5 x1.toNatClampNeg) ≤ x4 then (if x3 = 0 ∨ x3 = 1 then (some (x3, X)) else none) else (if x3 = 0 then (fX12_oneForm_L75 fu rec36 X x1 x4) else (if inS 0 19 x4 = true then (if inS 0 19 ((30 : Int32) + x4) = true then (if (ar X 19 x4.toNatClampNeg) = (ar X 19 ((30 : Int32) + x4).toNatClampNeg) then (fX12_oneForm_L76 fu rec36 X x1 x4 (1 : Int32)) else (fX12_oneForm_L75 fu rec36 X x1 x4)) else none) else none))) else none)
def fX12_oneForm_L36 (fu : Nat)  : Nat → SM → Int32 → Int32 → Int32 → Option (Int32 × SM)
  | 0 => fun _ _ _ _ => none
  | n + 1 => fun X x1 x3 x4 => fX12_oneForm_L36b fu (fX12_oneForm_L36 fu n) X x1 x3 x4
def fX12_oneForm_L32 (fu : Nat)  (X : SM) (x1 : Int32) (s0 : Int32) : Option (Int32 × SM) :=
  (fX12_oneForm_L36 fu fu X x1 s0 (0 : Int32))
def fX12_oneForm (fu : Nat)  (X : SM) (x1 : Int32) (x2 : Int32) : Option (Int32 × SM) :=
  (Option.bind (fX12_lays fu X x1 (0 : Int32)) fun X3 => (Option.bind (fX12_lays fu X3 x2 (1 : Int32)) fun X9 => (if inS 0 5 x1 = true then (if inS 0 5 x2 = true then (if (ar X9 5 x1.toNatClampNeg) = (ar X9 5 x2.toNatClampNeg) then (fX12_oneForm_L32 fu X9 x1 (1 : Int32)) else (fX12_oneForm_L32 fu X9 x1 (0 : Int32))) else none) else none)))
def fX12_copied_L86 (fu : Nat) (rec6 : SM → Int32 → Int32 → Int32 → Option (Int32 × SM)) (X : SM) (x1 : Int32) (x3 : Int32) (s0 : Int32) : Option (Int32 × SM) :=
  (rec6 X x1 s0 (x3 + (-1)))
def fX12_copied_L85 (fu : Nat) (rec6 : SM → Int32 → Int32 → Int32 → Option (Int32 × SM)) (X : SM) (x1 : Int32) (x2 : Int32) (x3 : Int32) : Option (Int32 × SM) :=
  (fX12_copied_L86 fu rec6 X x1 x3 x2)
def fX12_copied_L55 (fu : Nat) (rec6 : SM → Int32 → Int32 → Int32 → Option (Int32 × SM)) (X : SM) (x1 : Int32) (x2 : Int32) (x3 : Int32) (s0 : Int32) : Option (Int32 × SM) :=
  (if s0 = 0 then (fX12_copied_L85 fu rec6 X x1 x2 x3) else (if inS 0 26 x3 = true then (if inS 0 26 x1 = true then (bW (fX12_oneForm fu X (ar X 26 x3.toNatClampNeg) (ar X 26 x1.toNatClampNeg)) fun v75 X75 => (if v75 = 0 then (fX12_copied_L85 fu rec6 X75 x1 x2 x3) else (fX12_copied_L86 fu rec6 X75 x1 x3 x3))) else none) else none))
def fX12_copied_L54 (fu : Nat) (rec6 : SM → Int32 → Int32 → Int32 → Option (Int32 × SM)) (X : SM) (x1 : Int32) (x2 : Int32) (x3 : Int32) : Option (Int32 × SM) :=
  (fX12_copied_L55 fu rec6 X x1 x2 x3 (0 : Int32))
def fX12_copied_L6b (fu : Nat) (rec6 : SM → Int32 → Int32 → Int32 → Option (Int32 × SM)) (X : SM) (x1 : Int32) (x2 : Int32) (x3 : Int32) : Option (Int32 × SM) :=
  (if x3 < 0 then (some (x2, X)) else (if inS 0 27 x3 = true then (if inS 0 27 x1 = true then (if (ar X 27 x3.toNatClampNeg) = (ar X 27 x1.toNatClampNeg) then (if inS 0 26 x3 = true then (if inS 0 4 (ar X 26 x3.toNatClampNeg) = true then (if inS 0 26 x1 = true then (if inS 0 4 (ar X 26 x1.toNatClampNeg) = true then (if (ar X 4 (ar X 26 x3.toNatClampNeg).toNatClampNeg) = (ar X 4 (ar X 26 x1.toNatClampNeg).toNatClampNeg) then (fX12_copied_L54 fu rec6 X x1 x2 x3) else (fX12_copied_L55 fu rec6 X x1 x2 x3 (1 : Int32))) else none) else none) else none) else none) else (fX12_copied_L54 fu rec6 X x1 x2 x3)) else none) else none))
def fX12_copied_L6 (fu : Nat)  : Nat → SM → Int32 → Int32 → Int32 → Option (Int32 × SM)
  | 0 => fun _ _ _ _ => none
  | n + 1 => fun X x1 x2 x3 => fX12_copied_L6b fu (fX12_copied_L6 fu n) X x1 x2 x3
def fX12_copied (fu : Nat)  (X : SM) (x1 : Int32) : Option (Int32 × SM) :=
  (fX12_copied_L6 fu fu X x1 (-1) (x1 - (1 : Int32)))
def fX12_greatestOf_L144 (fu : Nat) (X0 : SM) (rec5 : Int32 → Int32 → Int32 → Int32 → Option (Int32)) (x1 : Int32) (x2 : Int32) (x4 : Int32) (s0 : Int32) : Option (Int32) :=
  (rec5 x1 x2 s0 (x4 + (1 : Int32)))
def fX12_greatestOf_L143 (fu : Nat) (X0 : SM) (rec5 : Int32 → Int32 → Int32 → Int32 → Option (Int32)) (x1 : Int32) (x2 : Int32) (x3 : Int32) (x4 : Int32) : Option (Int32) :=
  (fX12_greatestOf_L144 fu X0 rec5 x1 x2 x4 x3)
def fX12_greatestOf_L132 (fu : Nat) (X0 : SM) (rec5 : Int32 → Int32 → Int32 → Int32 → Option (Int32)) (x1 : Int32) (x2 : Int32) (x3 : Int32) (x4 : Int32) (x7 : Int32) : Option (Int32) :=
  (if x7 ≤ x3 then (fX12_greatestOf_L143 fu X0 rec5 x1 x2 x3 x4) else (fX12_greatestOf_L144 fu X0 rec5 x1 x2 x4 x7))
def fX12_greatestOf_L120 (fu : Nat) (X0 : SM) (rec5 : Int32 → Int32 → Int32 → Int32 → Option (Int32)) (x1 : Int32) (x2 : Int32) (x3 : Int32) (x4 : Int32) (x5 : Int32) (x6 : Int32) (s0 : Int32) : Option (Int32) :=
  (if x5 = 0 then (if x6 = 0 then (fX12_greatestOf_L143 fu X0 rec5 x1 x2 x3 x4) else (fX12_greatestOf_L132 fu X0 rec5 x1 x2 x3 x4 s0)) else (fX12_greatestOf_L132 fu X0 rec5 x1 x2 x3 x4 s0))
def fX12_greatestOf_L119 (fu : Nat) (X0 : SM) (rec5 : Int32 → Int32 → Int32 → Int32 → Option (Int32)) (x1 : Int32) (x2 : Int32) (x3 : Int32) (x4 : Int32) (x5 : Int32) (x6 : Int32) (s0 : Int32) (s1 : Int32) : Option (Int32) :=
  (fX12_greatestOf_L120 fu X0 rec5 x1 x2 x3 x4 x5 x6 (s0 + s1))
def fX12_greatestOf_L100 (fu : Nat) (X0 : SM) (rec5 : Int32 → Int32 → Int32 → Int32 → Option (Int32)) (x1 : Int32) (x2 : Int32) (x3 : Int32) (x4 : Int32) (x5 : Int32) (x6 : Int32) (s0 : Int32) (s1 : Int32) : Option (Int32) :=
  (fX12_greatestOf_L120 fu X0 rec5 x1 x2 x3 x4 x5 x6 (s0 + s1))
def fX12_greatestOf_L79 (fu : Nat) (X0 : SM) (rec5 : Int32 → Int32 → Int32 → Int32 → Option (Int32)) (x1 : Int32) (x2 : Int32) (x3 : Int32) (x4 : Int32) (x5 : Int32) (s0 : Int32) : Option (Int32) :=
  (if x2 = 0 then (if s0 = 0 then (fX12_greatestOf_L119 fu X0 rec5 x1 x2 x3 x4 x5 s0 (x4 / (16 : Int32)) (0 : Int32)) else (fX12_greatestOf_L119 fu X0 rec5 x1 x2 x3 x4 x5 s0 (x4 / (16 : Int32)) (1 : Int32))) else (if x5 = 0 then (fX12_greatestOf_L100 fu X0 rec5 x1 x2 x3 x4 x5 s0 (x4 - x4 / (16 : Int32) * (16 : Int32)) (0 : Int32)) else (fX12_greatestOf_L100 fu X0 rec5 x1 x2 x3 x4 x5 s0 (x4 - x4 / (16 : Int32) * (16 : Int32)) (1 : Int32))))
def fX12_greatestOf_L45 (fu : Nat) (X0 : SM) (rec5 : Int32 → Int32 → Int32 → Int32 → Option (Int32)) (x1 : Int32) (x2 : Int32) (x3 : Int32) (x4 : Int32) (s0 : Int32) : Option (Int32) :=
  (if inS 0 14 (((16 : Int32) * x1) + (x4 / (16 : Int32))) = true then (if (((ar X0 14 (((16 : Int32) * x1) + (x4 / (16 : Int32))).toNatClampNeg) >>> ((x4 - x4 / (16 : Int32) * (16 : Int32)) &&& 31)) &&& (1 : Int32)) = (1 : Int32) then (fX12_greatestOf_L79 fu X0 rec5 x1 x2 x3 x4 s0 (1 : Int32)) else (fX12_greatestOf_L79 fu X0 rec5 x1 x2 x3 x4 s0 (0 : Int32))) else none)
def fX12_greatestOf_L5b (fu : Nat) (X0 : SM) (rec5 : Int32 → Int32 → Int32 → Int32 → Option (Int32)) (x1 : Int32) (x2 : Int32) (x3 : Int32) (x4 : Int32) : Option (Int32) :=
  (if (256 : Int32) ≤ x4 then (some x3) else (if inS 0 13 (((16 : Int32) * x1) + (x4 / (16 : Int32))) = true then (if (((ar X0 13 (((16 : Int32) * x1) + (x4 / (16 : Int32))).toNatClampNeg) >>> ((x4 - x4 / (16 : Int32) * (16 : Int32)) &&& 31)) &&& (1 : Int32)) = (1 : Int32) then (fX12_greatestOf_L45 fu X0 rec5 x1 x2 x3 x4 (1 : Int32)) else (fX12_greatestOf_L45 fu X0 rec5 x1 x2 x3 x4 (0 : Int32))) else none))
def fX12_greatestOf_L5 (fu : Nat) (X0 : SM)  : Nat → Int32 → Int32 → Int32 → Int32 → Option (Int32)
  | 0 => fun _ _ _ _ => none
  | n + 1 => fun x1 x2 x3 x4 => fX12_greatestOf_L5b fu X0 (fX12_greatestOf_L5 fu X0 n) x1 x2 x3 x4
def fX12_greatestOf (fu : Nat) (X0 : SM)  (x1 : Int32) (x2 : Int32) : Option (Int32) :=
  (fX12_greatestOf_L5 fu X0 fu x1 x2 (0 : Int32) (0 : Int32))
def fX12_isFree_L74 (fu : Nat) (X0 : SM) (rec40 : Int32 → Int32 → Int64 → Int32 → Int32 → Option (Int32)) (x2 : Int32) (x4 : Int32) (x5 : Int64) (x8 : Int32) (s0 : Int32) : Option (Int32) :=
  (rec40 x2 x4 x5 s0 (x8 + (1 : Int32)))
def fX12_isFree_L40b (fu : Nat) (X0 : SM) (rec40 : Int32 → Int32 → Int64 → Int32 → Int32 → Option (Int32)) (x2 : Int32) (x4 : Int32) (x5 : Int64) (x7 : Int32) (x8 : Int32) : Option (Int32) :=
  (if (x2 + x4) ≤ x8 then (if x7 = 0 ∨ x7 = 1 then (some x7) else none) else (if x7 = 0 then (if x7 = 0 ∨ x7 = 1 then (some x7) else none) else (if inS 2 29 x8 = true then (if (lg_cmp ((al X0 29 x8.toNatClampNeg) &&& x5) (0 : Int64)) = 0 then (fX12_isFree_L74 fu X0 rec40 x2 x4 x5 x8 (1 : Int32)) else (fX12_isFree_L74 fu X0 rec40 x2 x4 x5 x8 (0 : Int32))) else none)))
def fX12_isFree_L40 (fu : Nat) (X0 : SM)  : Nat → Int32 → Int32 → Int64 → Int32 → Int32 → Option (Int32)
  | 0 => fun _ _ _ _ _ => none
  | n + 1 => fun x2 x4 x5 x7 x8 => fX12_isFree_L40b fu X0 (fX12_isFree_L40 fu X0 n) x2 x4 x5 x7 x8
def fX12_isFree_L35 (fu : Nat) (X0 : SM)  (x2 : Int32) (x4 : Int32) (x5 : Int64) (s0 : Int32) : Option (Int32) :=
  (fX12_isFree_L40 fu X0 fu x2 x4 x5 s0 x2)
def fX12_isFree_L34 (fu : Nat) (X0 : SM)  (x2 : Int32) (x4 : Int32) (x5 : Int64) : Option (Int32) :=
  (fX12_isFree_L35 fu X0 x2 x4 x5 (0 : Int32))
def fX12_isFree (fu : Nat) (X0 : SM)  (x1 : Int32) (x2 : Int32) (x3 : Int32) (x4 : Int32) : Option (Int32) :=
  (if (sc X0 45) < (x1 + x3) then (fX12_isFree_L34 fu X0 x2 x4 ((((1 : Int64) <<< (x3.toInt64 &&& 63)) - (1 : Int64)) <<< (x1.toInt64 &&& 63))) else (if (sc X0 46) < (x2 + x4) then (fX12_isFree_L34 fu X0 x2 x4 ((((1 : Int64) <<< (x3.toInt64 &&& 63)) - (1 : Int64)) <<< (x1.toInt64 &&& 63))) else (fX12_isFree_L35 fu X0 x2 x4 ((((1 : Int64) <<< (x3.toInt64 &&& 63)) - (1 : Int64)) <<< (x1.toInt64 &&& 63)) (1 : Int32))))
def fX12_hangsOne_L178 (fu : Nat) (rec55 : SM → Int32 → Int32 → Int32 → Int32 → Option (SM)) (X : SM) (x1 : Int32) (x2 : Int32) (x3 : Int32) (x4 : Int32) : Option (SM) :=
  (rec55 X x1 x2 x3 (x4 + (1 : Int32)))
def fX12_hangsOne_L135b (fu : Nat) (rec55 : SM → Int32 → Int32 → Int32 → Int32 → Option (SM)) (rec135 : SM → Int32 → Int32 → Int32 → Int32 → Int32 → Option (SM)) (X : SM) (x1 : Int32) (x2 : Int32) (x3 : Int32) (x4 : Int32) (x5 : Int32) : Option (SM) :=
  (if (sc X 45) = 0 then none else (if ((x4 / (sc X 45)) + x3) ≤ x5 then (fX12_hangsOne_L178 fu rec55 X x1 x2 x3 x4) else (if inS 2 29 x5 = true then (if (sc X 45) = 0 then none else (if inS 2 29 x5 = true then (rec135 (ul X 29 x5.toNatClampNeg ((al X 29 x5.toNatClampNeg) ||| ((((1 : Int64) <<< (x2.toInt64 &&& 63)) - (1 : Int64)) <<< ((x4 - x4 / (sc X 45) * (sc X 45)).toInt64 &&& 63)))) x1 x2 x3 x4 (x5 + (1 : Int32))) else none)) else none)))
def fX12_hangsOne_L135 (fu : Nat) (rec55 : SM → Int32 → Int32 → Int32 → Int32 → Option (SM)) : Nat → SM → Int32 → Int32 → Int32 → Int32 → Int32 → Option (SM)
  | 0 => fun _ _ _ _ _ _ => none
  | n + 1 => fun X x1 x2 x3 x4 x5 => fX12_hangsOne_L135b fu rec55 (fX12_hangsOne_L135 fu rec55 n) X x1 x2 x3 x4 x5
def fX12_hangsOne_L55b (fu : Nat) (rec55 : SM → Int32 → Int32 → Int32 → Int32 → Option (SM)) (X : SM) (x1 : Int32) (x2 : Int32) (x3 : Int32) (x4 : Int32) : Option (SM) :=
  (if ((sc X 45) * (sc X 46)) ≤ x4 then (some X) else (if inS 0 30 x1 = true then (if (ar X 30 x1.toNatClampNeg) = (-1) then (if (sc X 45) = 0 then none else (if (sc X 45) = 0 then none else (Option.bind (fX12_isFree fu X (x4 - x4 / (sc X 45) * (sc X 45)) (x4 / (sc X 45)) x2 x3) fun v96 => (if v96 = 0 then (fX12_hangsOne_L178 fu rec55 X x1 x2 x3 x4) else (if (sc X 45) = 0 then none else (if (sc X 45) = 0 then none else (if inS 0 30 x1 = true then (if (sc (ua X 30 x1.toNatClampNeg (((100 : Int32) * (x4 - x4 / (sc X 45) * (sc X 45))) + (x4 / (sc X 45)))) 45) = 0 then none else (fX12_hangsOne_L135 fu rec55 fu (ua X 30 x1.toNatClampNeg (((100 : Int32) * (x4 - x4 / (sc X 45) * (sc X 45))) + (x4 / (sc X 45)))) x1 x2 x3 x4 (x4 / (sc (ua X 30 x1.toNatClampNeg (((100 : Int32) * (x4 - x4 / (sc X 45) * (sc X 45))) + (x4 / (sc X 45)))) 45)))) else none))))))) else (some X)) else none))
def fX12_hangsOne_L55 (fu : Nat)  : Nat → SM → Int32 → Int32 → Int32 → Int32 → Option (SM)
  | 0 => fun _ _ _ _ _ => none
  | n + 1 => fun X x1 x2 x3 x4 => fX12_hangsOne_L55b fu (fX12_hangsOne_L55 fu n) X x1 x2 x3 x4
def fX12_hangsOne (fu : Nat)  (X : SM) (x1 : Int32) : Option (SM) :=
  (if inS 0 26 x1 = true then (Option.bind (fX12_greatestOf fu X (ar X 26 x1.toNatClampNeg) (1 : Int32)) fun v8 => (if inS 0 26 x1 = true then (Option.bind (fX12_leastOf fu X (ar X 26 x1.toNatClampNeg) (1 : Int32)) fun v19 => (if inS 0 26 x1 = true then (Option.bind (fX12_greatestOf fu X (ar X 26 x1.toNatClampNeg) (0 : Int32)) fun v34 => (if inS 0 26 x1 = true then (Option.bind (fX12_leastOf fu X (ar X 26 x1.toNatClampNeg) (0 : Int32)) fun v45 => (fX12_hangsOne_L55 fu fu X x1 ((v8 - v19) + (1 : Int32)) ((v34 - v45) + (1 : Int32)) (0 : Int32))) else none)) else none)) else none)) else none)
def fX12_hangsAll_L69 (fu : Nat) (rec23 : SM → Int32 → Option (SM)) (X : SM) (x1 : Int32) : Option (SM) :=
  (rec23 X (x1 + (1 : Int32)))
def fX12_hangsAll_L64 (fu : Nat) (rec23 : SM → Int32 → Option (SM)) (X : SM) (x1 : Int32) : Option (SM) :=
  (Option.bind (fX12_hangsOne fu X x1) fun X66 => (fX12_hangsAll_L69 fu rec23 X66 x1))
def fX12_hangsAll_L23b (fu : Nat) (rec23 : SM → Int32 → Option (SM)) (X : SM) (x1 : Int32) : Option (SM) :=
  (if (sc X 41) ≤ x1 then (some X) else (if inS 0 30 x1 = true then (Option.bind (fX12_doesMeet fu (ua X 30 x1.toNatClampNeg (-1)) x1) fun v40 => (if v40 = 0 then (fX12_hangsAll_L69 fu rec23 (ua X 30 x1.toNatClampNeg (-1)) x1) else (if inS 1 28 x1 = true then (if (ar (ua X 30 x1.toNatClampNeg (-1)) 28 x1.toNatClampNeg) = 0 then (bW (fX12_copied fu (ua X 30 x1.toNatClampNeg (-1)) x1) fun v57 X57 => (if v57 = (-1) then (fX12_hangsAll_L64 fu rec23 X57 x1) else (fX12_hangsAll_L69 fu rec23 X57 x1))) else (fX12_hangsAll_L64 fu rec23 (ua X 30 x1.toNatClampNeg (-1)) x1)) else none))) else none))
def fX12_hangsAll_L23 (fu : Nat)  : Nat → SM → Int32 → Option (SM)
  | 0 => fun _ _ => none
  | n + 1 => fun X x1 => fX12_hangsAll_L23b fu (fX12_hangsAll_L23 fu n) X x1
def fX12_hangsAll_L2b (fu : Nat) (rec2 : SM → Int32 → Option (SM)) (X : SM) (x1 : Int32) : Option (SM) :=
  (if (40 : Int32) ≤ x1 then (fX12_hangsAll_L23 fu fu X (0 : Int32)) else (if inS 2 29 x1 = true then (rec2 (ul X 29 x1.toNatClampNeg (0 : Int64)) (x1 + (1 : Int32))) else none))
def fX12_hangsAll_L2 (fu : Nat)  : Nat → SM → Int32 → Option (SM)
  | 0 => fun _ _ => none
  | n + 1 => fun X x1 => fX12_hangsAll_L2b fu (fX12_hangsAll_L2 fu n) X x1
def fX12_hangsAll (fu : Nat)  (X : SM)  : Option (SM) :=
  (fX12_hangsAll_L2 fu fu X (0 : Int32))
def fX12_setWall_L79 (fu : Nat) (rec53 : SM → Int32 → Int32 → Option (Int32 × SM)) (X : SM) (x4 : Int32) (s0 : Int32) (s1 : Int32) : Option (Int32 × SM) :=
  (rec53 X (s0 + s1) (x4 + (1 : Int32)))
def fX12_setWall_L53b (fu : Nat) (rec53 : SM → Int32 → Int32 → Option (Int32 × SM)) (X : SM) (x3 : Int32) (x4 : Int32) : Option (Int32 × SM) :=
  (if (sc X 41) ≤ x4 then (some (x3, X)) else (if inS 0 30 x4 = true then (if (ar X 30 x4.toNatClampNeg) = (-1) then (fX12_setWall_L79 fu rec53 X x4 x3 (0 : Int32)) else (fX12_setWall_L79 fu rec53 X x4 x3 (1 : Int32))) else none))
def fX12_setWall_L53 (fu : Nat)  : Nat → SM → Int32 → Int32 → Option (Int32 × SM)
  | 0 => fun _ _ _ => none
  | n + 1 => fun X x3 x4 => fX12_setWall_L53b fu (fX12_setWall_L53 fu n) X x3 x4
def fX12_setWall_L26 (fu : Nat)  (X : SM) (x1 : Int32) (x2 : Int32) (s1 : Int32) : Option (Int32 × SM) :=
  (bW (fX12_holds X s1) fun v26 X26 => (if v26 = 0 then (some ((0 : Int32), X26)) else (Option.bind (fX12_hangsAll fu (uc (uc X26 45 x1) 46 x2)) fun X45 => (fX12_setWall_L53 fu fu X45 (0 : Int32) (0 : Int32)))))
def fX12_setWall_L25 (fu : Nat)  (X : SM) (x1 : Int32) (x2 : Int32) : Option (Int32 × SM) :=
  (fX12_setWall_L26 fu X x1 x2 (1 : Int32))
def fX12_setWall (fu : Nat)  (X : SM) (x1 : Int32) (x2 : Int32) : Option (Int32 × SM) :=
  (Option.bind (fX12_isIn X x1 (1 : Int32) (40 : Int32)) fun v5 => (if v5 = 0 then (fX12_setWall_L25 fu X x1 x2) else (Option.bind (fX12_isIn X x2 (1 : Int32) (40 : Int32)) fun v15 => (if v15 = 0 then (fX12_setWall_L25 fu X x1 x2) else (fX12_setWall_L26 fu X x1 x2 (0 : Int32))))))
def fX12_longestRow_L177 (fu : Nat) (rec36 : SM → Int32 → Int32 → Int32 → Option (Int32 × SM)) (rec49 : SM → Int32 → Int32 → Int32 → Int32 → Option (Int32 × SM)) (X : SM) (x1 : Int32) (x2 : Int32) (x3 : Int32) (x4 : Int32) (s1 : Int32) (s2 : Int32) : Option (Int32 × SM) :=
  (if inS 0 22 s1 = true then (rec49 (ua X 22 s1.toNatClampNeg s2) x1 x2 x3 (x4 + (1 : Int32))) else none)
def fX12_longestRow_L122 (fu : Nat) (rec36 : SM → Int32 → Int32 → Int32 → Option (Int32 × SM)) (rec49 : SM → Int32 → Int32 → Int32 → Int32 → Option (Int32 × SM)) (X : SM) (x1 : Int32) (x2 : Int32) (x3 : Int32) (x4 : Int32) (s0 : Int32) : Option (Int32 × SM) :=
  (if inS 0 19 x3 = true then (if inS 0 19 ((30 : Int32) + x4) = true then (if (ar X 19 x3.toNatClampNeg) = (ar X 19 ((30 : Int32) + x4).toNatClampNeg) then (if inS 0 22 (((31 : Int32) * x3) + x4) = true then (fX12_longestRow_L177 fu rec36 rec49 X x1 x2 x3 x4 ((((31 : Int32) * (x3 + (1 : Int32))) + x4) + (1 : Int32)) ((ar X 22 (((31 : Int32) * x3) + x4).toNatClampNeg) + (1 : Int32))) else none) else (fX12_longestRow_L177 fu rec36 rec49 X x1 x2 x3 x4 ((((31 : Int32) * (x3 + (1 : Int32))) + x4) + (1 : Int32)) s0)) else none) else none)
def fX12_longestRow_L49b (fu : Nat) (rec36 : SM → Int32 → Int32 → Int32 → Option (Int32 × SM)) (rec49 : SM → Int32 → Int32 → Int32 → Int32 → Option (Int32 × SM)) (X : SM) (x1 : Int32) (x2 : Int32) (x3 : Int32) (x4 : Int32) : Option (Int32 × SM) :=
  (if inS 0 5 x2 = true then (if (ar X 5 x2.toNatClampNeg) ≤ x4 then (rec36 X x1 x2 (x3 + (1 : Int32))) else (if inS 0 22 ((((31 : Int32) * x3) + x4) + (1 : Int32)) = true then (if inS 0 22 (((31 : Int32) * (x3 + (1 : Int32))) + x4) = true then (if (ar X 22 ((((31 : Int32) * x3) + x4) + (1 : Int32)).toNatClampNeg) ≤ (ar X 22 (((31 : Int32) * (x3 + (1 : Int32))) + x4).toNatClampNeg) then (if inS 0 22 (((31 : Int32) * (x3 + (1 : Int32))) + x4) = true then (fX12_longestRow_L122 fu rec36 rec49 X x1 x2 x3 x4 (ar X 22 (((31 : Int32) * (x3 + (1 : Int32))) + x4).toNatClampNeg)) else none) else (if inS 0 22 ((((31 : Int32) * x3) + x4) + (1 : Int32)) = true then (fX12_longestRow_L122 fu rec36 rec49 X x1 x2 x3 x4 (ar X 22 ((((31 : Int32) * x3) + x4) + (1 : Int32)).toNatClampNeg)) else none)) else none) else none)) else none)
def fX12_longestRow_L49 (fu : Nat) (rec36 : SM → Int32 → Int32 → Int32 → Option (Int32 × SM)) : Nat → SM → Int32 → Int32 → Int32 → Int32 → Option (Int32 × SM)
  | 0 => fun _ _ _ _ _ => none
  | n + 1 => fun X x1 x2 x3 x4 => fX12_longestRow_L49b fu rec36 (fX12_longestRow_L49 fu rec36 n) X x1 x2 x3 x4
def fX12_longestRow_L36b (fu : Nat) (rec36 : SM → Int32 → Int32 → Int32 → Option (Int32 × SM)) (X : SM) (x1 : Int32) (x2 : Int32) (x3 : Int32) : Option (Int32 × SM) :=
  (if inS 0 5 x1 = true then (if (ar X 5 x1.toNatClampNeg) ≤ x3 then (if inS 0 5 x1 = true then (if inS 0 5 x2 = true then (if inS 0 22 (((31 : Int32) * (ar X 5 x1.toNatClampNeg)) + (ar X 5 x2.toNatClampNeg)) = true then (some ((ar X 22 (((31 : Int32) * (ar X 5 x1.toNatClampNeg)) + (ar X 5 x2.toNatClampNeg)).toNatClampNeg), X)) else none) else none) else none) else (fX12_longestRow_L49 fu rec36 fu X x1 x2 x3 (0 : Int32))) else none)
def fX12_longestRow_L36 (fu : Nat)  : Nat → SM → Int32 → Int32 → Int32 → Option (Int32 × SM)
  | 0 => fun _ _ _ _ => none
  | n + 1 => fun X x1 x2 x3 => fX12_longestRow_L36b fu (fX12_longestRow_L36 fu n) X x1 x2 x3
def fX12_longestRow_L14b (fu : Nat) (rec14 : SM → Int32 → Int32 → Int32 → Option (Int32 × SM)) (X : SM) (x1 : Int32) (x2 : Int32) (x3 : Int32) : Option (Int32 × SM) :=
  (if (961 : Int32) ≤ x3 then (fX12_longestRow_L36 fu fu X x1 x2 (0 : Int32)) else (if inS 0 22 x3 = true then (rec14 (ua X 22 x3.toNatClampNeg (0 : Int32)) x1 x2 (x3 + (1 : Int32))) else none))
def fX12_longestRow_L14 (fu : Nat)  : Nat → SM → Int32 → Int32 → Int32 → Option (Int32 × SM)
  | 0 => fun _ _ _ _ => none
  | n + 1 => fun X x1 x2 x3 => fX12_longestRow_L14b fu (fX12_longestRow_L14 fu n) X x1 x2 x3
def fX12_longestRow (fu : Nat)  (X : SM) (x1 : Int32) (x2 : Int32) : Option (Int32 × SM) :=
  (Option.bind (fX12_lays fu X x1 (0 : Int32)) fun X3 => (Option.bind (fX12_lays fu X3 x2 (1 : Int32)) fun X9 => (fX12_longestRow_L14 fu fu X9 x1 x2 (0 : Int32))))
def fX12_drafted  (X : SM)  : Option (Int32 × SM) :=
  (some ((sc (uc X 0 (0 : Int32)) 1), (uc X 0 (0 : Int32))))
def fX12_programs  (X : SM)  : Option (Int32 × SM) :=
  (some ((sc (uc X 0 (0 : Int32)) 8), (uc X 0 (0 : Int32))))
def fX12_fault_L14  (X : SM) (x1 : Int32) (s1 : Int32) : Option (Int32 × SM) :=
  (bW (fX12_holds X s1) fun v14 X14 => (if v14 = 0 then (some ((0 : Int32), X14)) else (if inS 0 10 x1 = true then (some ((ar X14 10 x1.toNatClampNeg), X14)) else none)))
def fX12_fault  (X : SM) (x1 : Int32) : Option (Int32 × SM) :=
  (Option.bind (fX12_isProgram X x1) fun v3 => (if v3 = 0 then (fX12_fault_L14 X x1 (1 : Int32)) else (fX12_fault_L14 X x1 (0 : Int32))))
def fX12_steps_L14  (X : SM) (x1 : Int32) (s1 : Int32) : Option (Int32 × SM) :=
  (bW (fX12_holds X s1) fun v14 X14 => (if v14 = 0 then (some ((0 : Int32), X14)) else (if inS 0 11 x1 = true then (some ((ar X14 11 x1.toNatClampNeg), X14)) else none)))
def fX12_steps  (X : SM) (x1 : Int32) : Option (Int32 × SM) :=
  (Option.bind (fX12_isProgram X x1) fun v3 => (if v3 = 0 then (fX12_steps_L14 X x1 (1 : Int32)) else (fX12_steps_L14 X x1 (0 : Int32))))
def fX12_strokes_L14  (X : SM) (x1 : Int32) (s1 : Int32) : Option (Int32 × SM) :=
  (bW (fX12_holds X s1) fun v14 X14 => (if v14 = 0 then (some ((0 : Int32), X14)) else (if inS 0 12 x1 = true then (some ((ar X14 12 x1.toNatClampNeg), X14)) else none)))
def fX12_strokes  (X : SM) (x1 : Int32) : Option (Int32 × SM) :=
  (Option.bind (fX12_isProgram X x1) fun v3 => (if v3 = 0 then (fX12_strokes_L14 X x1 (1 : Int32)) else (fX12_strokes_L14 X x1 (0 : Int32))))
def fX12_strokesBySteps_L29 (fu : Nat)  (X : SM) (x1 : Int32) (x2 : Int32) (s1 : Int32) : Option (Int32 × SM) :=
  (bW (fX12_holds X s1) fun v29 X29 => (if v29 = 0 then (some ((0 : Int32), X29)) else (Option.bind (fX12_runs fu X29 x1) fun X39 => (if (sc X39 25) ≤ x2 then (if inS 0 18 (sc X39 25) = true then (some ((ar X39 18 (sc X39 25).toNatClampNeg), X39)) else none) else (if inS 0 18 x2 = true then (some ((ar X39 18 x2.toNatClampNeg), X39)) else none)))))
def fX12_strokesBySteps (fu : Nat)  (X : SM) (x1 : Int32) (x2 : Int32) : Option (Int32 × SM) :=
  (Option.bind (fX12_isProgram X x1) fun v3 => (if v3 = 0 then (fX12_strokesBySteps_L29 fu X x1 x2 (1 : Int32)) else (Option.bind (fX12_isIn X x2 (0 : Int32) (600 : Int32)) fun v18 => (if v18 = 0 then (fX12_strokesBySteps_L29 fu X x1 x2 (2 : Int32)) else (fX12_strokesBySteps_L29 fu X x1 x2 (0 : Int32))))))
def fX12_isDrawn_L60  (X : SM) (x2 : Int32) (s0 : Int32) : Option (Int32 × SM) :=
  (if ((s0 >>> (x2 &&& 31)) &&& (1 : Int32)) = (1 : Int32) then (some ((1 : Int32), X)) else (some ((0 : Int32), X)))
def fX12_isDrawn_L22  (X : SM) (x1 : Int32) (x2 : Int32) (x3 : Int32) (x4 : Int32) (s1 : Int32) : Option (Int32 × SM) :=
  (bW (fX12_holds X s1) fun v22 X22 => (if v22 = 0 then (some ((0 : Int32), X22)) else (if x4 = 0 then (if inS 0 13 (((16 : Int32) * x1) + x3) = true then (fX12_isDrawn_L60 X22 x2 (ar X22 13 (((16 : Int32) * x1) + x3).toNatClampNeg)) else none) else (if inS 0 14 (((16 : Int32) * x1) + x3) = true then (fX12_isDrawn_L60 X22 x2 (ar X22 14 (((16 : Int32) * x1) + x3).toNatClampNeg)) else none))))
def fX12_isDrawn_L21  (X : SM) (x1 : Int32) (x2 : Int32) (x3 : Int32) (x4 : Int32) : Option (Int32 × SM) :=
  (fX12_isDrawn_L22 X x1 x2 x3 x4 (1 : Int32))
def fX12_isDrawn  (X : SM) (x1 : Int32) (x2 : Int32) (x3 : Int32) (x4 : Int32) : Option (Int32 × SM) :=
  (Option.bind (fX12_isProgram X x1) fun v3 => (if v3 = 0 then (fX12_isDrawn_L21 X x1 x2 x3 x4) else (Option.bind (fX12_isOn X x2 x3) fun v11 => (if v11 = 0 then (fX12_isDrawn_L21 X x1 x2 x3 x4) else (fX12_isDrawn_L22 X x1 x2 x3 x4 (0 : Int32))))))
def fX12_areTwo_L22  (X : SM) (s1 : Int32) : Option (Int32 × SM) :=
  (bW (fX12_holds X s1) fun v22 X22 => (if v22 = 0 ∨ v22 = 1 then (some (v22, X22)) else none))
def fX12_areTwo_L21  (X : SM)  : Option (Int32 × SM) :=
  (fX12_areTwo_L22 X (1 : Int32))
def fX12_areTwo  (X : SM) (x1 : Int32) (x2 : Int32) : Option (Int32 × SM) :=
  (Option.bind (fX12_isProgram X x1) fun v3 => (if v3 = 0 then (fX12_areTwo_L21 X) else (Option.bind (fX12_isProgram X x2) fun v11 => (if v11 = 0 then (fX12_areTwo_L21 X) else (fX12_areTwo_L22 X (0 : Int32))))))
def fX12_areAlike (fu : Nat)  (X : SM) (x1 : Int32) (x2 : Int32) : Option (Int32 × SM) :=
  (bW (fX12_areTwo X x1 x2) fun v3 X3 => (if v3 = 0 then (some ((0 : Int32), X3)) else (Option.bind (fX12_alike fu X3 x1 x2) fun v12 => (if v12 = 0 then (some ((0 : Int32), X3)) else (some ((1 : Int32), X3))))))
def fX12_haveOneForm (fu : Nat)  (X : SM) (x1 : Int32) (x2 : Int32) : Option (Int32 × SM) :=
  (bW (fX12_areTwo X x1 x2) fun v3 X3 => (if v3 = 0 then (some ((0 : Int32), X3)) else (bW (fX12_oneForm fu X3 x1 x2) fun v12 X12 => (if v12 = 0 then (some ((0 : Int32), X12)) else (some ((1 : Int32), X12))))))
def fX12_likeness (fu : Nat)  (X : SM) (x1 : Int32) (x2 : Int32) : Option (Int32 × SM) :=
  (bW (fX12_areTwo X x1 x2) fun v3 X3 => (if v3 = 0 then (some ((0 : Int32), X3)) else (bW (fX12_longestRow fu X3 x1 x2) fun v15 X15 => (if inS 0 5 x1 = true then (if inS 0 5 x2 = true then (if ((ar X15 5 x1.toNatClampNeg) + (ar X15 5 x2.toNatClampNeg)) = 0 then none else (some ((((200 : Int32) * v15) / ((ar X15 5 x1.toNatClampNeg) + (ar X15 5 x2.toNatClampNeg))), X15))) else none) else none))))
def fX12_works  (X : SM)  : Option (Int32 × SM) :=
  (some ((sc (uc X 0 (0 : Int32)) 41), (uc X 0 (0 : Int32))))
def fX12_meets_L14 (fu : Nat)  (X : SM) (x1 : Int32) (s1 : Int32) : Option (Int32 × SM) :=
  (bW (fX12_holds X s1) fun v14 X14 => (if v14 = 0 then (some ((0 : Int32), X14)) else (Option.bind (fX12_doesMeet fu X14 x1) fun v22 => (if v22 = 0 then (some ((0 : Int32), X14)) else (some ((1 : Int32), X14))))))
def fX12_meets (fu : Nat)  (X : SM) (x1 : Int32) : Option (Int32 × SM) :=
  (Option.bind (fX12_isWork X x1) fun v3 => (if v3 = 0 then (fX12_meets_L14 fu X x1 (1 : Int32)) else (fX12_meets_L14 fu X x1 (0 : Int32))))
def fX12_copyOf_L14 (fu : Nat)  (X : SM) (x1 : Int32) (s1 : Int32) : Option (Int32 × SM) :=
  (bW (fX12_holds X s1) fun v14 X14 => (if v14 = 0 then (some ((0 : Int32), X14)) else (bW (fX12_copied fu X14 x1) fun v22 X22 => (some (v22, X22)))))
def fX12_copyOf (fu : Nat)  (X : SM) (x1 : Int32) : Option (Int32 × SM) :=
  (Option.bind (fX12_isWork X x1) fun v3 => (if v3 = 0 then (fX12_copyOf_L14 fu X x1 (1 : Int32)) else (fX12_copyOf_L14 fu X x1 (0 : Int32))))
def fX12_hangs_L14 (fu : Nat)  (X : SM) (x1 : Int32) (s1 : Int32) : Option (Int32 × SM) :=
  (bW (fX12_holds X s1) fun v14 X14 => (if v14 = 0 then (some ((0 : Int32), X14)) else (Option.bind (fX12_hangsAll fu X14) fun X23 => (if inS 0 30 x1 = true then (some ((ar X23 30 x1.toNatClampNeg), X23)) else none))))
def fX12_hangs (fu : Nat)  (X : SM) (x1 : Int32) : Option (Int32 × SM) :=
  (Option.bind (fX12_isWork X x1) fun v3 => (if v3 = 0 then (fX12_hangs_L14 fu X x1 (1 : Int32)) else (fX12_hangs_L14 fu X x1 (0 : Int32))))
def fX12_covers (fu : Nat) (X0 : SM)  (x1 : Int32) (x2 : Int32) (x3 : Int32) : Option (Int32) :=
  (if inS 0 26 x1 = true then (if inS 0 30 x1 = true then (if inS 0 30 x1 = true then (if inS 0 30 x1 = true then (if (ar X0 30 x1.toNatClampNeg) = (-1) then (some (0 : Int32)) else (Option.bind (fX12_greatestOf fu X0 (ar X0 26 x1.toNatClampNeg) (1 : Int32)) fun v51 => (Option.bind (fX12_leastOf fu X0 (ar X0 26 x1.toNatClampNeg) (1 : Int32)) fun v58 => (Option.bind (fX12_isIn X0 (x2 - ((ar X0 30 x1.toNatClampNeg) / (100 : Int32))) (0 : Int32) (v51 - v58)) fun v62 => (if v62 = 0 then (some (0 : Int32)) else (Option.bind (fX12_greatestOf fu X0 (ar X0 26 x1.toNatClampNeg) (0 : Int32)) fun v75 => (Option.bind (fX12_leastOf fu X0 (ar X0 26 x1.toNatClampNeg) (0 : Int32)) fun v82 => (Option.bind (fX12_isIn X0 (x3 - ((ar X0 30 x1.toNatClampNeg) - (ar X0 30 x1.toNatClampNeg) / (100 : Int32) * (100 : Int32))) (0 : Int32) (v75 - v82)) fun v86 => (if v86 = 0 then (some (0 : Int32)) else (some (1 : Int32))))))))))) else none) else none) else none) else none)
def fX12_onWall_L77 (fu : Nat) (rec51 : SM → Int32 → Int32 → Int32 → Int32 → Option (Int32 × SM)) (X : SM) (x1 : Int32) (x2 : Int32) (x4 : Int32) (s0 : Int32) : Option (Int32 × SM) :=
  (rec51 X x1 x2 s0 (x4 + (1 : Int32)))
def fX12_onWall_L51b (fu : Nat) (rec51 : SM → Int32 → Int32 → Int32 → Int32 → Option (Int32 × SM)) (X : SM) (x1 : Int32) (x2 : Int32) (x3 : Int32) (x4 : Int32) : Option (Int32 × SM) :=
  (if (sc X 41) ≤ x4 then (some (x3, X)) else (Option.bind (fX12_covers fu X x4 x1 x2) fun v65 => (if v65 = 0 then (fX12_onWall_L77 fu rec51 X x1 x2 x4 x3) else (fX12_onWall_L77 fu rec51 X x1 x2 x4 x4))))
def fX12_onWall_L51 (fu : Nat)  : Nat → SM → Int32 → Int32 → Int32 → Int32 → Option (Int32 × SM)
  | 0 => fun _ _ _ _ _ => none
  | n + 1 => fun X x1 x2 x3 x4 => fX12_onWall_L51b fu (fX12_onWall_L51 fu n) X x1 x2 x3 x4
def fX12_onWall_L34 (fu : Nat)  (X : SM) (x1 : Int32) (x2 : Int32) (s1 : Int32) : Option (Int32 × SM) :=
  (bW (fX12_holds X s1) fun v34 X34 => (if v34 = 0 then (some ((0 : Int32), X34)) else (Option.bind (fX12_hangsAll fu X34) fun X43 => (fX12_onWall_L51 fu fu X43 x1 x2 (-1) (0 : Int32)))))
def fX12_onWall_L33 (fu : Nat)  (X : SM) (x1 : Int32) (x2 : Int32) : Option (Int32 × SM) :=
  (fX12_onWall_L34 fu X x1 x2 (1 : Int32))
def fX12_onWall (fu : Nat)  (X : SM) (x1 : Int32) (x2 : Int32) : Option (Int32 × SM) :=
  (Option.bind (fX12_isIn X x1 (0 : Int32) ((sc X 45) - (1 : Int32))) fun v9 => (if v9 = 0 then (fX12_onWall_L33 fu X x1 x2) else (Option.bind (fX12_isIn X x2 (0 : Int32) ((sc X 46) - (1 : Int32))) fun v23 => (if v23 = 0 then (fX12_onWall_L33 fu X x1 x2) else (fX12_onWall_L34 fu X x1 x2 (0 : Int32))))))
def fX12_hung_L70 (fu : Nat) (rec31 : SM → Int32 → Int32 → Int32 → Option (Int32 × SM)) (X : SM) (x1 : Int32) (x3 : Int32) (s0 : Int32) (s1 : Int32) : Option (Int32 × SM) :=
  (rec31 X x1 (s0 + s1) (x3 + (1 : Int32)))
def fX12_hung_L69 (fu : Nat) (rec31 : SM → Int32 → Int32 → Int32 → Option (Int32 × SM)) (X : SM) (x1 : Int32) (x3 : Int32) (s0 : Int32) : Option (Int32 × SM) :=
  (fX12_hung_L70 fu rec31 X x1 x3 s0 (0 : Int32))
def fX12_hung_L31b (fu : Nat) (rec31 : SM → Int32 → Int32 → Int32 → Option (Int32 × SM)) (X : SM) (x1 : Int32) (x2 : Int32) (x3 : Int32) : Option (Int32 × SM) :=
  (if (sc X 41) ≤ x3 then (some (x2, X)) else (if inS 0 30 x3 = true then (if (ar X 30 x3.toNatClampNeg) = (-1) then (fX12_hung_L69 fu rec31 X x1 x3 x2) else (if inS 0 26 x3 = true then (if inS 0 4 (ar X 26 x3.toNatClampNeg) = true then (if (ar X 4 (ar X 26 x3.toNatClampNeg).toNatClampNeg) = x1 then (fX12_hung_L70 fu rec31 X x1 x3 x2 (1 : Int32)) else (fX12_hung_L69 fu rec31 X x1 x3 x2)) else none) else none)) else none))
def fX12_hung_L31 (fu : Nat)  : Nat → SM → Int32 → Int32 → Int32 → Option (Int32 × SM)
  | 0 => fun _ _ _ _ => none
  | n + 1 => fun X x1 x2 x3 => fX12_hung_L31b fu (fX12_hung_L31 fu n) X x1 x2 x3
def fX12_hung_L15 (fu : Nat)  (X : SM) (x1 : Int32) (s1 : Int32) : Option (Int32 × SM) :=
  (bW (fX12_holds X s1) fun v15 X15 => (if v15 = 0 then (some ((0 : Int32), X15)) else (Option.bind (fX12_hangsAll fu X15) fun X24 => (fX12_hung_L31 fu fu X24 x1 (0 : Int32) (0 : Int32)))))
def fX12_hung (fu : Nat)  (X : SM) (x1 : Int32) : Option (Int32 × SM) :=
  (Option.bind (fX12_isIn X x1 (0 : Int32) (5 : Int32)) fun v4 => (if v4 = 0 then (fX12_hung_L15 fu X x1 (1 : Int32)) else (fX12_hung_L15 fu X x1 (0 : Int32))))
