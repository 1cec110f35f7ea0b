def G11_within_J14   (μ : MM)  (Q : Int32 → MM → Prop) : Prop :=
  Q 0 μ
def G11_within (v0 : Int32) (v1 : Int32) (v2 : Int32) (μ : MM) (Q : Int32 → MM → Prop) : Prop :=
  ((v0 < v1 → G11_within_J14 μ Q) ∧ (¬ (v0 < v1) → ((v2 < v0 → G11_within_J14 μ Q) ∧ (¬ (v2 < v0) → Q 1 μ))))
def G10_addName (v1 : Int32) (v2 : Int32) (v3 : Int32) (μ : MM) (Q : Int32 → MM → Prop) : Prop :=
  vp_in (gI μ 1 4) 12 ∧ Bd (sI μ 2 ((gI μ 1 4).toNatClampNeg) v1) fun μ11 => vp_in (gI μ11 1 4) 12 ∧ Bd (sI μ11 3 ((gI μ11 1 4).toNatClampNeg) v2) fun μ13 => vp_in (gI μ13 1 4) 12 ∧ Bd (sI μ13 4 ((gI μ13 1 4).toNatClampNeg) (v3 / 101)) fun μ15 => vp_in (gI μ15 1 4) 12 ∧ Bd (sI μ15 5 ((gI μ15 1 4).toNatClampNeg) (v3 - v3 / 101 * 101)) fun μ17 => Bd (sI μ17 1 4 ((gI μ17 1 4) + 1)) fun μ18 => Q ((gI μ18 1 4) - 1) μ18
def G11_name_J66   (μ : MM)  (Q : Int32 → MM → Prop) : Prop :=
  Q (-1) μ
def G11_name_J34  (p1 : Int32) (p2 : Int32) (p3 : Int32) (q0 : Int32) (μ : MM)  (Q : Int32 → MM → Prop) : Prop :=
  ((q0 = 0 → G11_name_J66 μ Q) ∧ (¬ (q0 = 0) → ((12 ≤ (gI μ 1 4) → G11_name_J66 μ Q) ∧ (¬ (12 ≤ (gI μ 1 4)) → G10_addName p1 p2 p3 μ (fun r15 μ14 => Q r15 μ14)))))
def G11_name_J33  (p1 : Int32) (p2 : Int32) (p3 : Int32) (μ : MM)  (Q : Int32 → MM → Prop) : Prop :=
  G11_name_J34 p1 p2 p3 0 μ Q
def G11_name (v1 : Int32) (v2 : Int32) (v3 : Int32) (μ : MM) (Q : Int32 → MM → Prop) : Prop :=
  G11_within v1 0 1 μ (fun r10 μ9 => ((r10 = 0 → G11_name_J33 v1 v2 v3 μ9 Q) ∧ (¬ (r10 = 0) → G11_within v2 0 1 μ9 (fun r17 μ16 => ((r17 = 0 → G11_name_J33 v1 v2 v3 μ16 Q) ∧ (¬ (r17 = 0) → G11_within v3 0 1009 μ16 (fun r20 μ19 => ((r20 = 0 → G11_name_J33 v1 v2 v3 μ19 Q) ∧ (¬ (r20 = 0) → G11_name_J34 v1 v2 v3 1 μ19 Q)))))))))
def G10_addHouse (v1 : Int32) (v2 : Int32) (v3 : Int32) (μ : MM) (Q : Int32 → MM → Prop) : Prop :=
  vp_in (gI μ 1 8) 24 ∧ Bd (sI μ 6 ((gI μ 1 8).toNatClampNeg) v1) fun μ9 => vp_in (gI μ9 1 8) 24 ∧ Bd (sI μ9 7 ((gI μ9 1 8).toNatClampNeg) v2) fun μ11 => vp_in (gI μ11 1 8) 24 ∧ Bd (sI μ11 8 ((gI μ11 1 8).toNatClampNeg) v3) fun μ13 => Bd (sI μ13 1 8 ((gI μ13 1 8) + 1)) fun μ14 => Q ((gI μ14 1 8) - 1) μ14
def G11_house_J64   (μ : MM)  (Q : Int32 → MM → Prop) : Prop :=
  Q (-1) μ
def G11_house_J32  (p1 : Int32) (p2 : Int32) (p3 : Int32) (q0 : Int32) (μ : MM)  (Q : Int32 → MM → Prop) : Prop :=
  ((q0 = 0 → G11_house_J64 μ Q) ∧ (¬ (q0 = 0) → ((24 ≤ (gI μ 1 8) → G11_house_J64 μ Q) ∧ (¬ (24 ≤ (gI μ 1 8)) → G10_addHouse p1 p2 p3 μ (fun r15 μ14 => Q r15 μ14)))))
def G11_house_J31  (p1 : Int32) (p2 : Int32) (p3 : Int32) (μ : MM)  (Q : Int32 → MM → Prop) : Prop :=
  G11_house_J32 p1 p2 p3 0 μ Q
def G11_house (v1 : Int32) (v2 : Int32) (v3 : Int32) (μ : MM) (Q : Int32 → MM → Prop) : Prop :=
  G11_within v1 0 3 μ (fun r10 μ9 => ((r10 = 0 → G11_house_J31 v1 v2 v3 μ9 Q) ∧ (¬ (r10 = 0) → G11_within v2 0 3 μ9 (fun r17 μ16 => ((r17 = 0 → G11_house_J31 v1 v2 v3 μ16 Q) ∧ (¬ (r17 = 0) → G11_within v3 0 5 μ16 (fun r20 μ19 => ((r20 = 0 → G11_house_J31 v1 v2 v3 μ19 Q) ∧ (¬ (r20 = 0) → G11_house_J32 v1 v2 v3 1 μ19 Q)))))))))
def G5_becomeState_J12 (t : Nat) (p1 : Int32) (q0 : Int32) (μ : MM)  (Q : MM → Prop) : Prop :=
  bo q0 ∧ Bd (sI μ t 6 q0) fun μ9 => (((p1 &&& 2) = 0 → Bd (sI μ9 t 7 0) fun μ11 => Bd (sI μ11 t 8 (p1 >>> (2 &&& 31))) fun μ12 => Q μ12) ∧ (¬ ((p1 &&& 2) = 0) → Bd (sI μ9 t 7 1) fun μ13 => Bd (sI μ13 t 8 (p1 >>> (2 &&& 31))) fun μ14 => Q μ14))
def G5_becomeState (t : Nat) (v1 : Int32) (μ : MM) (Q : MM → Prop) : Prop :=
  (((v1 &&& 1) = 0 → G5_becomeState_J12 t v1 0 μ Q) ∧ (¬ ((v1 &&& 1) = 0) → G5_becomeState_J12 t v1 1 μ Q))
def G10_addLetter (v1 : Int32) (v2 : Int32) (v3 : Int32) (v4 : Int32) (v5 : Int32) (μ : MM) (Q : Int32 → MM → Prop) : Prop :=
  vp_in (gI μ 1 10) 96 ∧ Bd (sI μ (19 + (gI μ 1 10).toNatClampNeg) 0 v1) fun μ11 => Bd (sI μ11 (19 + (gI μ 1 10).toNatClampNeg) 1 v2) fun μ12 => Bd (sI μ12 (19 + (gI μ 1 10).toNatClampNeg) 2 v3) fun μ13 => Bd (sI μ13 (19 + (gI μ 1 10).toNatClampNeg) 3 (v4 / 4)) fun μ14 => Bd (sI μ14 (19 + (gI μ 1 10).toNatClampNeg) 4 (v4 - v4 / 4 * 4)) fun μ15 => Bd (sI μ15 (19 + (gI μ 1 10).toNatClampNeg) 5 v5) fun μ16 => G5_becomeState (19 + (gI μ 1 10).toNatClampNeg) 0 μ16 (fun μ17 => Bd (sI μ17 1 10 ((gI μ17 1 10) + 1)) fun μ18 => Q ((gI μ18 1 10) - 1) μ18)
def G10_isHouse_J16   (μ : MM)  (Q : Int32 → MM → Prop) : Prop :=
  Q 0 μ
def G10_isHouse (v1 : Int32) (μ : MM) (Q : Int32 → MM → Prop) : Prop :=
  ((v1 < 0 → G10_isHouse_J16 μ Q) ∧ (¬ (v1 < 0) → (((gI μ 1 8) ≤ v1 → G10_isHouse_J16 μ Q) ∧ (¬ ((gI μ 1 8) ≤ v1) → Q 1 μ))))
def G10_isName_J16   (μ : MM)  (Q : Int32 → MM → Prop) : Prop :=
  Q 0 μ
def G10_isName (v1 : Int32) (μ : MM) (Q : Int32 → MM → Prop) : Prop :=
  ((v1 < 0 → G10_isName_J16 μ Q) ∧ (¬ (v1 < 0) → (((gI μ 1 4) ≤ v1 → G10_isName_J16 μ Q) ∧ (¬ ((gI μ 1 4) ≤ v1) → Q 1 μ))))
def G10_lettersTo_L4  (p1 : Int32)  (Q : Int32 → MM → Prop) (K4 : Int32 × Int32 × MM → Prop) (x : Int32 × Int32 × MM) : Prop :=
  (((gI x.2.2 1 10) ≤ x.2.1 → Q x.1 x.2.2) ∧ (¬ ((gI x.2.2 1 10) ≤ x.2.1) → vp_in x.2.1 96 ∧ ((¬ (gI x.2.2 (19 + x.2.1.toNatClampNeg) 0) = p1 → Bd (x.1 + 0) fun y7 => K4 (y7, (x.2.1 + 1), x.2.2)) ∧ ((gI x.2.2 (19 + x.2.1.toNatClampNeg) 0) = p1 → Bd (x.1 + 1) fun y8 => K4 (y8, (x.2.1 + 1), x.2.2)))))
def G10_lettersTo (v1 : Int32) (μ : MM) (Q : Int32 → MM → Prop) : Prop :=
  Lp (G10_lettersTo_L4 v1 Q) (0, 0, μ)
def G11_letter_J120   (μ : MM)  (Q : Int32 → MM → Prop) : Prop :=
  Q (-1) μ
def G11_letter_J91  (p1 : Int32) (p2 : Int32) (p3 : Int32) (p4 : Int32) (p5 : Int32) (p6 : Int32) (q0 : Int32) (μ : MM)  (Q : Int32 → MM → Prop) : Prop :=
  ((p6 = 0 → G11_letter_J120 μ Q) ∧ (¬ (p6 = 0) → ((q0 = 0 → G11_letter_J120 μ Q) ∧ (¬ (q0 = 0) → G10_addLetter p1 p2 p3 p4 p5 μ (fun r22 μ21 => Q r22 μ21)))))
def G11_letter_J90  (p1 : Int32) (p2 : Int32) (p3 : Int32) (p4 : Int32) (p5 : Int32) (p6 : Int32) (μ : MM)  (Q : Int32 → MM → Prop) : Prop :=
  G11_letter_J91 p1 p2 p3 p4 p5 p6 0 μ Q
def G11_letter_J60  (p1 : Int32) (p2 : Int32) (p3 : Int32) (p4 : Int32) (p5 : Int32) (q0 : Int32) (μ : MM)  (Q : Int32 → MM → Prop) : Prop :=
  ((96 ≤ (gI μ 1 10) → G11_letter_J90 p1 p2 p3 p4 p5 q0 μ Q) ∧ (¬ (96 ≤ (gI μ 1 10)) → G10_lettersTo p1 μ (fun r24 μ23 => ((4 ≤ r24 → G11_letter_J90 p1 p2 p3 p4 p5 q0 μ23 Q) ∧ (¬ (4 ≤ r24) → G11_letter_J91 p1 p2 p3 p4 p5 q0 1 μ23 Q)))))
def G11_letter_J59  (p1 : Int32) (p2 : Int32) (p3 : Int32) (p4 : Int32) (p5 : Int32) (μ : MM)  (Q : Int32 → MM → Prop) : Prop :=
  G11_letter_J60 p1 p2 p3 p4 p5 0 μ Q
def G11_letter (v1 : Int32) (v2 : Int32) (v3 : Int32) (v4 : Int32) (v5 : Int32) (μ : MM) (Q : Int32 → MM → Prop) : Prop :=
  G10_isHouse v1 μ (fun r16 μ15 => ((r16 = 0 → G11_letter_J59 v1 v2 v3 v4 v5 μ15 Q) ∧ (¬ (r16 = 0) → G10_isName v2 μ15 (fun r27 μ26 => ((r27 = 0 → G11_letter_J59 v1 v2 v3 v4 v5 μ26 Q) ∧ (¬ (r27 = 0) → G11_within v3 0 99 μ26 (fun r30 μ29 => ((r30 = 0 → G11_letter_J59 v1 v2 v3 v4 v5 μ29 Q) ∧ (¬ (r30 = 0) → G11_within v4 0 39 μ29 (fun r33 μ32 => ((r33 = 0 → G11_letter_J59 v1 v2 v3 v4 v5 μ32 Q) ∧ (¬ (r33 = 0) → G11_within v5 0 399 μ32 (fun r36 μ35 => ((r36 = 0 → G11_letter_J59 v1 v2 v3 v4 v5 μ35 Q) ∧ (¬ (r36 = 0) → G11_letter_J60 v1 v2 v3 v4 v5 1 μ35 Q)))))))))))))))
def G10_draw (v1 : Int32) (μ : MM) (Q : Int32 → MM → Prop) : Prop :=
  Bd (sI μ 1 14 (((gI μ 1 14) * 1103515245) + 12345)) fun μ3 => ((v1 ≤ 0 → Q 0 μ3) ∧ (¬ (v1 ≤ 0) → ¬ v1 = 0 ∧ Q ((((gI μ3 1 14).toUInt32 >>> ((16 : Int32).toUInt32 &&& Int32.toUInt32 31)).toInt32) - (((gI μ3 1 14).toUInt32 >>> ((16 : Int32).toUInt32 &&& Int32.toUInt32 31)).toInt32) / v1 * v1) μ3))
def G10_isFree_L3  (p1 : Int32) (p2 : Int32) (p3 : Int32)  (Q : Int32 → MM → Prop) (K3 : Int32 × MM → Prop) (x : Int32 × MM) : Prop :=
  (((gI x.2 1 10) ≤ x.1 → vp_in p1 12 ∧ ((¬ (gI x.2 2 p1.toNatClampNeg) = p3 → Q 0 x.2) ∧ ((gI x.2 2 p1.toNatClampNeg) = p3 → Q 1 x.2))) ∧ (¬ ((gI x.2 1 10) ≤ x.1) → vp_in x.1 96 ∧ ((¬ (gI x.2 (19 + x.1.toNatClampNeg) 0) = p2 → K3 ((x.1 + 1), x.2)) ∧ ((gI x.2 (19 + x.1.toNatClampNeg) 0) = p2 → vp_in x.1 96 ∧ ((¬ (gI x.2 (19 + x.1.toNatClampNeg) 1) = p1 → K3 ((x.1 + 1), x.2)) ∧ ((gI x.2 (19 + x.1.toNatClampNeg) 1) = p1 → Q 0 x.2))))))
def G10_isFree (v1 : Int32) (v2 : Int32) (v3 : Int32) (μ : MM) (Q : Int32 → MM → Prop) : Prop :=
  Lp (G10_isFree_L3 v1 v2 v3 Q) (0, μ)
def G10_drawName_L49  (p1 : Int32) (p2 : Int32)  (Q : Int32 → MM → Prop) (K49 : Int32 × Int32 × MM → Prop) (x : Int32 × Int32 × MM) : Prop :=
  (((gI x.2.2 1 4) ≤ x.2.1 → Q 0 x.2.2) ∧ (¬ ((gI x.2.2 1 4) ≤ x.2.1) → G10_isFree x.2.1 p1 p2 x.2.2 (fun r14 μ13 => ((r14 = 0 → K49 (x.1, (x.2.1 + 1), μ13)) ∧ (¬ (r14 = 0) → ((¬ x.1 = 0 → K49 ((x.1 + (-1)), (x.2.1 + 1), μ13)) ∧ (x.1 = 0 → Q x.2.1 μ13)))))))
def G10_drawName_L5  (p1 : Int32) (p2 : Int32)  (Q : Int32 → MM → Prop) (K5 : Int32 × Int32 × MM → Prop) (x : Int32 × Int32 × MM) : Prop :=
  (((gI x.2.2 1 4) ≤ x.2.1 → G10_draw x.1 x.2.2 (fun r11 μ10 => Lp (G10_drawName_L49 p1 p2 Q) (r11, 0, μ10))) ∧ (¬ ((gI x.2.2 1 4) ≤ x.2.1) → G10_isFree x.2.1 p1 p2 x.2.2 (fun r18 μ17 => ((r18 = 0 → Bd (x.1 + 0) fun y20 => K5 (y20, (x.2.1 + 1), μ17)) ∧ (¬ (r18 = 0) → Bd (x.1 + 1) fun y21 => K5 (y21, (x.2.1 + 1), μ17))))))
def G10_drawName (v1 : Int32) (v2 : Int32) (μ : MM) (Q : Int32 → MM → Prop) : Prop :=
  Lp (G10_drawName_L5 v1 v2 Q) (0, 0, μ)
def G10_dealTo_J105  (p1 : Int32) (p2 : Int32) (p3 : Int32) (p4 : Int32) (p5 : Int32) (p10 : Int32) (p11 : Int32) (q0 : Int32) (q1 : Int32) (q2 : Int32) (μ : MM) (K15 : Int32 × MM → Prop) (Q : Int32 → MM → Prop) : Prop :=
  G10_addLetter q2 q1 q0 p10 p11 μ (fun r30 μ29 => K15 ((p5 + 1), μ29))
def G10_dealTo_J64  (p1 : Int32) (p2 : Int32) (p3 : Int32) (p4 : Int32) (p5 : Int32) (p6 : Int32) (q0 : Int32) (μ : MM) (K15 : Int32 × MM → Prop) (Q : Int32 → MM → Prop) : Prop :=
  G10_drawName p1 p6 μ (fun r23 μ22 => G10_draw 4 μ22 (fun r25 μ24 => G10_draw 400 μ24 (fun r27 μ26 => ((q0 = 0 → G10_dealTo_J105 p1 p2 p3 p4 p5 r25 r27 p3 r23 p1 μ26 K15 Q) ∧ (¬ (q0 = 0) → G10_dealTo_J105 p1 p2 p3 p4 p5 r25 r27 p2 r23 p1 μ26 K15 Q)))))
def G10_dealTo_J45  (p1 : Int32) (p2 : Int32) (p3 : Int32) (p4 : Int32) (p5 : Int32) (p6 : Int32) (q0 : Int32) (μ : MM) (K15 : Int32 × MM → Prop) (Q : Int32 → MM → Prop) : Prop :=
  ((¬ (q0 &&& ((1 <<< (p5 &&& 31)) - 1)) = 0 → G10_dealTo_J64 p1 p2 p3 p4 p5 p6 0 μ K15 Q) ∧ ((q0 &&& ((1 <<< (p5 &&& 31)) - 1)) = 0 → G10_dealTo_J64 p1 p2 p3 p4 p5 p6 1 μ K15 Q))
def G10_dealTo_L15  (p1 : Int32) (p2 : Int32) (p3 : Int32) (p4 : Int32)  (Q : Int32 → MM → Prop) (K15 : Int32 × MM → Prop) (x : Int32 × MM) : Prop :=
  ((4 ≤ x.1 → Q (gI x.2 1 10) x.2) ∧ (¬ (4 ≤ x.1) → Bd ((p4 >>> (x.1 &&& 31)) &&& 1) fun y19 => ((¬ y19 = 1 → G10_dealTo_J45 p1 p2 p3 p4 x.1 y19 (p4 ^^^ (-1)) x.2 K15 Q) ∧ (y19 = 1 → G10_dealTo_J45 p1 p2 p3 p4 x.1 y19 p4 x.2 K15 Q))))
def G10_dealTo (v1 : Int32) (v2 : Int32) (v3 : Int32) (μ : MM) (Q : Int32 → MM → Prop) : Prop :=
  G10_draw 6 μ (fun r15 μ14 => vp_in r15 6 ∧ Bd (twoL.getD r15.toNatClampNeg 0) fun y17 => Lp (G10_dealTo_L15 v1 v2 v3 y17 Q) (0, μ14))
def G10_namesOf_L4  (p1 : Int32)  (Q : Int32 → MM → Prop) (K4 : Int32 × Int32 × MM → Prop) (x : Int32 × Int32 × MM) : Prop :=
  (((gI x.2.2 1 4) ≤ x.2.1 → Q x.1 x.2.2) ∧ (¬ ((gI x.2.2 1 4) ≤ x.2.1) → vp_in x.2.1 12 ∧ ((¬ (gI x.2.2 2 x.2.1.toNatClampNeg) = p1 → Bd (x.1 + 0) fun y7 => K4 (y7, (x.2.1 + 1), x.2.2)) ∧ ((gI x.2.2 2 x.2.1.toNatClampNeg) = p1 → Bd (x.1 + 1) fun y8 => K4 (y8, (x.2.1 + 1), x.2.2)))))
def G10_namesOf (v1 : Int32) (μ : MM) (Q : Int32 → MM → Prop) : Prop :=
  Lp (G10_namesOf_L4 v1 Q) (0, 0, μ)
def G11_deal_J129   (μ : MM)  (Q : Int32 → MM → Prop) : Prop :=
  Q (-1) μ
def G11_deal_J99  (p1 : Int32) (p2 : Int32) (p3 : Int32) (p4 : Int32) (p5 : Int32) (q0 : Int32) (μ : MM)  (Q : Int32 → MM → Prop) : Prop :=
  ((p4 = 0 → G11_deal_J129 μ Q) ∧ (¬ (p4 = 0) → ((p5 = 0 → G11_deal_J129 μ Q) ∧ (¬ (p5 = 0) → ((q0 = 0 → G11_deal_J129 μ Q) ∧ (¬ (q0 = 0) → G10_dealTo p1 p2 p3 μ (fun r26 μ25 => Q r26 μ25)))))))
def G11_deal_J98  (p1 : Int32) (p2 : Int32) (p3 : Int32) (p4 : Int32) (p5 : Int32) (μ : MM)  (Q : Int32 → MM → Prop) : Prop :=
  G11_deal_J99 p1 p2 p3 p4 p5 0 μ Q
def G11_deal_J68  (p1 : Int32) (p2 : Int32) (p3 : Int32) (p4 : Int32) (q0 : Int32) (μ : MM)  (Q : Int32 → MM → Prop) : Prop :=
  G10_namesOf 0 μ (fun r20 μ19 => ((r20 < 2 → G11_deal_J98 p1 p2 p3 p4 q0 μ19 Q) ∧ (¬ (r20 < 2) → G10_namesOf 1 μ19 (fun r28 μ27 => ((r28 < 2 → G11_deal_J98 p1 p2 p3 p4 q0 μ27 Q) ∧ (¬ (r28 < 2) → G11_deal_J99 p1 p2 p3 p4 q0 1 μ27 Q))))))
def G11_deal_J67  (p1 : Int32) (p2 : Int32) (p3 : Int32) (p4 : Int32) (μ : MM)  (Q : Int32 → MM → Prop) : Prop :=
  G11_deal_J68 p1 p2 p3 p4 0 μ Q
def G11_deal_J36  (p1 : Int32) (p2 : Int32) (p3 : Int32) (q0 : Int32) (μ : MM)  (Q : Int32 → MM → Prop) : Prop :=
  ((96 < ((gI μ 1 10) + 4) → G11_deal_J67 p1 p2 p3 q0 μ Q) ∧ (¬ (96 < ((gI μ 1 10) + 4)) → G10_lettersTo p1 μ (fun r31 μ30 => ((¬ r31 = 0 → G11_deal_J67 p1 p2 p3 q0 μ30 Q) ∧ (r31 = 0 → G11_deal_J68 p1 p2 p3 q0 1 μ30 Q)))))
def G11_deal_J35  (p1 : Int32) (p2 : Int32) (p3 : Int32) (μ : MM)  (Q : Int32 → MM → Prop) : Prop :=
  G11_deal_J36 p1 p2 p3 0 μ Q
def G11_deal (v1 : Int32) (v2 : Int32) (v3 : Int32) (μ : MM) (Q : Int32 → MM → Prop) : Prop :=
  G10_isHouse v1 μ (fun r16 μ15 => ((r16 = 0 → G11_deal_J35 v1 v2 v3 μ15 Q) ∧ (¬ (r16 = 0) → G11_within v2 0 99 μ15 (fun r34 μ33 => ((r34 = 0 → G11_deal_J35 v1 v2 v3 μ33 Q) ∧ (¬ (r34 = 0) → G11_within v3 0 99 μ33 (fun r37 μ36 => ((r37 = 0 → G11_deal_J35 v1 v2 v3 μ36 Q) ∧ (¬ (r37 = 0) → G11_deal_J36 v1 v2 v3 1 μ36 Q)))))))))
def G5_told (t : Nat) (v1 : Int32) (μ : MM) (Q : Int32 → MM → Prop) : Prop :=
  ((v1 = 0 → Q (gI μ t 0) μ) ∧ (v1 = 1 → Q (gI μ t 1) μ) ∧ (v1 = 2 → Q (gI μ t 2) μ) ∧ (v1 = 3 → Q (gI μ t 3) μ) ∧ (v1 = 4 → Q (gI μ t 4) μ) ∧ (v1 = 5 → Q (gI μ t 5) μ) ∧ (v1 = 6 → (((gI μ t 6) = 0 → Q 0 μ) ∧ (¬ ((gI μ t 6) = 0) → Q 1 μ))) ∧ (v1 = 7 → (((gI μ t 7) = 0 → Q 0 μ) ∧ (¬ ((gI μ t 7) = 0) → Q 1 μ))) ∧ (¬ v1 = 0 → ¬ v1 = 1 → ¬ v1 = 2 → ¬ v1 = 3 → ¬ v1 = 4 → ¬ v1 = 5 → ¬ v1 = 6 → ¬ v1 = 7 → Q (gI μ t 8) μ))
def G10_isLetter_J16   (μ : MM)  (Q : Int32 → MM → Prop) : Prop :=
  Q 0 μ
def G10_isLetter (v1 : Int32) (μ : MM) (Q : Int32 → MM → Prop) : Prop :=
  ((v1 < 0 → G10_isLetter_J16 μ Q) ∧ (¬ (v1 < 0) → (((gI μ 1 10) ≤ v1 → G10_isLetter_J16 μ Q) ∧ (¬ ((gI μ 1 10) ≤ v1) → Q 1 μ))))
def G11_of_J21   (μ : MM)  (Q : Int32 → MM → Prop) (X : MM → Prop) : Prop :=
  X μ
def G11_of (v1 : Int32) (v2 : Int32) (μ : MM) (Q : Int32 → MM → Prop) (X : MM → Prop) : Prop :=
  G10_isLetter v1 μ (fun r9 μ8 => ((r9 = 0 → G11_of_J21 μ8 Q X) ∧ (¬ (r9 = 0) → G11_within v2 0 8 μ8 (fun r12 μ11 => ((¬ r12 = 0 → vp_in v1 96 ∧ G5_told (19 + v1.toNatClampNeg) v2 μ11 (fun r16 μ15 => Q r16 μ15)) ∧ (r12 = 0 → G11_of_J21 μ11 Q X))))))
def G11_sign_L16  (p1 : Int32)  (Q : Int32 → MM → Prop) (K16 : Int32 × MM → Prop) (x : Int32 × MM) : Prop :=
  ((x.1 < 0 → Q (gI x.2 0 8) x.2) ∧ (¬ (x.1 < 0) → vp_in (gI x.2 0 8) 60 ∧ Bd (sI x.2 357 ((gI x.2 0 8).toNatClampNeg) (((p1.toUInt32 >>> (x.1.toUInt32 &&& Int32.toUInt32 31)).toInt32) &&& 255)) fun μ7 => Bd (sI μ7 0 8 ((gI μ7 0 8) + 1)) fun μ8 => K16 ((x.1 + (-8)), μ8)))
def G11_sign (v1 : Int32) (μ : MM) (Q : Int32 → MM → Prop) : Prop :=
  ((((gI μ 0 8) + 4) ≤ 60 → Lp (G11_sign_L16 v1 Q) (24, μ)) ∧ (¬ (((gI μ 0 8) + 4) ≤ 60) → Q (-1) μ))
def G11_end (v1 : Int32) (μ : MM) (Q : Int32 → MM → Prop) : Prop :=
  G11_within v1 0 (gI μ 0 8) μ (fun r5 μ4 => ((¬ r5 = 0 → Bd (sI μ4 0 8 v1) fun μ7 => Q 1 μ7) ∧ (r5 = 0 → Q 0 μ4)))
def G3_isDigit_J16   (μ : MM)  (Q : Int32 → MM → Prop) : Prop :=
  Q 0 μ
def G3_isDigit (v0 : Int32) (μ : MM) (Q : Int32 → MM → Prop) : Prop :=
  ((v0 < 48 → G3_isDigit_J16 μ Q) ∧ (¬ (v0 < 48) → ((57 < v0 → G3_isDigit_J16 μ Q) ∧ (¬ (57 < v0) → Q 1 μ))))
def G3_strength (v0 : Int32) (μ : MM) (Q : Int32 → MM → Prop) : Prop :=
  ((v0 = 33 → Q 6 μ) ∧ (v0 = 38 → Q 2 μ) ∧ (v0 = 42 → Q 5 μ) ∧ (v0 = 43 → Q 4 μ) ∧ (v0 = 45 → Q 4 μ) ∧ (v0 = 60 → Q 3 μ) ∧ (v0 = 61 → Q 3 μ) ∧ (v0 = 62 → Q 3 μ) ∧ (v0 = 124 → Q 1 μ) ∧ (v0 = 126 → Q 6 μ) ∧ (¬ v0 = 33 → ¬ v0 = 38 → ¬ v0 = 42 → ¬ v0 = 43 → ¬ v0 = 45 → ¬ v0 = 60 → ¬ v0 = 61 → ¬ v0 = 62 → ¬ v0 = 124 → ¬ v0 = 126 → Q 0 μ))
def G3_isJoining (v0 : Int32) (μ : MM) (Q : Int32 → MM → Prop) : Prop :=
  G3_strength v0 μ (fun r6 μ5 => G11_within r6 1 5 μ5 (fun r8 μ7 => bo r8 ∧ Q r8 μ7))
def G3_pop (t : Nat) (μ : MM) (Q : Int32 → MM → Prop) : Prop :=
  ((¬ (gI μ t 3) = 0 → Bd (sI μ t 3 ((gI μ t 3) - 1)) fun μ4 => vp_in (gI μ4 t 3) 40 ∧ Q (gI μ4 (t + 2) ((gI μ4 t 3).toNatClampNeg)) μ4) ∧ ((gI μ t 3) = 0 → Q 0 μ))
def G3_push (t : Nat) (v1 : Int32) (μ : MM) (Q : MM → Prop) : Prop :=
  ((40 ≤ (gI μ t 3) → Q μ) ∧ (¬ (40 ≤ (gI μ t 3)) → vp_in (gI μ t 3) 40 ∧ Bd (sI μ (t + 2) ((gI μ t 3).toNatClampNeg) v1) fun μ6 => Bd (sI μ6 t 3 ((gI μ6 t 3) + 1)) fun μ7 => Q μ7))
def G3_put (t : Nat) (v1 : Int32) (μ : MM) (Q : MM → Prop) : Prop :=
  ((40 ≤ (gI μ t 1) → Q μ) ∧ (¬ (40 ≤ (gI μ t 1)) → vp_in (gI μ t 1) 40 ∧ Bd (sI μ (t + 1) ((gI μ t 1).toNatClampNeg) v1) fun μ6 => Bd (sI μ6 t 1 ((gI μ6 t 1) + 1)) fun μ7 => Q μ7))
def G3_putDigit_J41 (t : Nat) (p1 : Int32) (μ : MM)  (Q : MM → Prop) : Prop :=
  G3_put t p1 μ (fun μ6 => Q μ6)
def G3_putDigit (t : Nat) (v1 : Int32) (v2 : Int32) (μ : MM) (Q : MM → Prop) : Prop :=
  ((v2 = 0 → G3_putDigit_J41 t v1 μ Q) ∧ (¬ (v2 = 0) → (((gI μ t 1) ≤ 0 → G3_putDigit_J41 t v1 μ Q) ∧ (¬ ((gI μ t 1) ≤ 0) → vp_in ((gI μ t 1) - 1) 40 ∧ vp_in ((gI μ t 1) - 1) 40 ∧ Bd (sI μ (t + 1) (((gI μ t 1) - 1).toNatClampNeg) (((gI μ (t + 1) (((gI μ t 1) - 1).toNatClampNeg)) * 10) + v1)) fun μ10 => Q μ10))))
def G3_putStronger_L5 (t : Nat) (p1 : Int32)  (Q : MM → Prop) (K5 : Int32 × MM → Prop) (x : Int32 × MM) : Prop :=
  ((x.1 ≤ 0 → Q x.2) ∧ (¬ (x.1 ≤ 0) → vp_in (x.1 - 1) 40 ∧ G3_strength (gI x.2 (t + 2) ((x.1 - 1).toNatClampNeg)) x.2 (fun r12 μ11 => ((r12 < p1 → Q μ11) ∧ (¬ (r12 < p1) → G3_pop t μ11 (fun r15 μ14 => G3_put t (-r15) μ14 (fun μ16 => K5 ((x.1 + (-1)), μ16))))))))
def G3_putStronger (t : Nat) (v1 : Int32) (μ : MM) (Q : MM → Prop) : Prop :=
  Bd (gI μ t 3) fun y8 => Lp (G3_putStronger_L5 t v1 Q) (y8, μ)
def GJ0_isLatin1_aae02 (t : Nat) (μ : MM) (Q : Int32 → MM → Prop) : Prop :=
  Q 1 μ
def GJ0_coder_7d493 (t : Nat) (μ : MM) (Q : Int32 → MM → Prop) : Prop :=
  narrow .byte (.int 0) = .int 0 ∧ Q 0 μ
def GJ0_length_8abf5 (t : Nat) (μ : MM) (Q : Int32 → MM → Prop) : Prop :=
  Q ((Int32.ofNat (lenJS.getD t 0)) >>> (0 &&& 31)) μ
def GJ1_canEncode_9a6ad_J15   (μ : MM)  (Q : Int32 → MM → Prop) : Prop :=
  Q 0 μ
def GJ1_canEncode_9a6ad (v0 : Int32) (μ : MM) (Q : Int32 → MM → Prop) : Prop :=
  ((v0 < 0 → GJ1_canEncode_9a6ad_J15 μ Q) ∧ (¬ (v0 < 0) → ((255 < v0 → GJ1_canEncode_9a6ad_J15 μ Q) ∧ (¬ (255 < v0) → Q 1 μ))))
def GJ1_indexOfChar_4cfef_L7 (a0 : Nat) (p3 : Int32) (p4 : Int32)  (Q : Int32 → MM → Prop) (K7 : Int32 × MM → Prop) (x : Int32 × MM) : Prop :=
  ((p3 ≤ x.1 → Q (-1) x.2) ∧ (¬ (p3 ≤ x.1) → vp_in x.1 (lenJS.getD a0 0) ∧ ((¬ ((bytJS.getD a0 []).getD x.1.toNatClampNeg 0) = p4 → K7 ((x.1 + 1), x.2)) ∧ (((bytJS.getD a0 []).getD x.1.toNatClampNeg 0) = p4 → Q x.1 x.2))))
def GJ1_indexOfChar_4cfef (a0 : Nat) (v1 : Int32) (v2 : Int32) (v3 : Int32) (μ : MM) (Q : Int32 → MM → Prop) : Prop :=
  Bd (v1.toInt8.toInt32) fun y3 => Lp (GJ1_indexOfChar_4cfef_L7 a0 v3 y3 Q) (v2, μ)
def GJ1_indexOf_4cfef (a0 : Nat) (v1 : Int32) (v2 : Int32) (v3 : Int32) (μ : MM) (Q : Int32 → MM → Prop) : Prop :=
  GJ1_canEncode_9a6ad v1 μ (fun r8 μ7 => ((¬ r8 = 0 → Bd (if v2 < 0 then 0 else v2) fun y10 => Bd (if (Int32.ofNat (lenJS.getD a0 0)) < v3 then (Int32.ofNat (lenJS.getD a0 0)) else v3) fun y11 => ((y10 < y11 → GJ1_indexOfChar_4cfef a0 v1 y10 y11 μ7 (fun r14 μ13 => Q r14 μ13)) ∧ (¬ (y10 < y11) → Q (-1) μ7))) ∧ (r8 = 0 → Q (-1) μ7)))
def GJ0_indexOf_7cf53 (t : Nat) (v1 : Int32) (v2 : Int32) (μ : MM) (Q : Int32 → MM → Prop) : Prop :=
  GJ0_length_8abf5 t μ (fun r7 μ6 => GJ1_indexOf_4cfef t v1 v2 r7 μ6 (fun r9 μ8 => Q r9 μ8))
def GJ0_indexOf_0f7a4 (t : Nat) (v1 : Int32) (μ : MM) (Q : Int32 → MM → Prop) : Prop :=
  GJ0_indexOf_7cf53 t v1 0 μ (fun r4 μ3 => Q r4 μ3)
def G3_become_J85 (t : Nat) (a1 : Nat) (p2 : Int32) (p3 : Int32) (p4 : Int32) (p5 : Int32) (μ : MM) (K15 : Int32 × Int32 × MM → Prop) (Q : MM → Prop) : Prop :=
  G3_push t p5 μ (fun μ36 => K15 (p3, (p4 + 1), μ36))
def G3_become_J114 (t : Nat) (a1 : Nat) (p2 : Int32) (p3 : Int32) (p4 : Int32) (p5 : Int32) (μ : MM) (K15 : Int32 × Int32 × MM → Prop) (Q : MM → Prop) : Prop :=
  ((¬ p5 = 41 → G3_isJoining p5 μ (fun r41 μ40 => ((r41 = 0 → GJ0_indexOf_0f7a4 0 ((p5.toUInt32 % 65536).toInt32) μ40 (fun r44 μ43 => G3_put t (1000 + r44) μ43 (fun μ45 => K15 (0, (p4 + 1), μ45)))) ∧ (¬ (r41 = 0) → G3_strength p5 μ40 (fun r47 μ46 => G3_putStronger t r47 μ46 (fun μ48 => G3_push t p5 μ48 (fun μ49 => K15 (1, (p4 + 1), μ49)))))))) ∧ (p5 = 41 → G3_putStronger t 1 μ (fun μ50 => G3_pop t μ50 (fun r52 μ51 => K15 (p3, (p4 + 1), μ51)))))
def G3_become_J63 (t : Nat) (a1 : Nat) (p2 : Int32) (p4 : Int32) (q0 : Int32) (q1 : Int32) (μ : MM) (K15 : Int32 × Int32 × MM → Prop) (Q : MM → Prop) : Prop :=
  G3_putDigit t q1 q0 μ (fun μ56 => K15 (0, (p4 + 1), μ56))
def G3_become_J62 (t : Nat) (a1 : Nat) (p2 : Int32) (p4 : Int32) (q0 : Int32) (μ : MM) (K15 : Int32 × Int32 × MM → Prop) (Q : MM → Prop) : Prop :=
  G3_become_J63 t a1 p2 p4 0 q0 μ K15 Q
def G3_become_L15 (t : Nat) (a1 : Nat) (p2 : Int32)  (Q : MM → Prop) (K15 : Int32 × Int32 × MM → Prop) (x : Int32 × Int32 × MM) : Prop :=
  ((p2 ≤ x.2.1 → G3_putStronger t 1 x.2.2 (fun μ29 => Q μ29)) ∧ (¬ (p2 ≤ x.2.1) → vp_in x.2.1 (ln a1) ∧ Bd (gI x.2.2 a1 x.2.1.toNatClampNeg) fun y31 => G3_isDigit y31 x.2.2 (fun r33 μ32 => ((r33 = 0 → ((y31 = 40 → G3_become_J85 t a1 p2 x.1 x.2.1 y31 μ32 K15 Q) ∧ (¬ (y31 = 40) → ((¬ y31 = 33 → ((¬ y31 = 45 → G3_become_J114 t a1 p2 x.1 x.2.1 y31 μ32 K15 Q) ∧ (y31 = 45 → ((x.1 = 0 → G3_become_J114 t a1 p2 x.1 x.2.1 y31 μ32 K15 Q) ∧ (¬ (x.1 = 0) → G3_push t 126 μ32 (fun μ54 => K15 (x.1, (x.2.1 + 1), μ54))))))) ∧ (y31 = 33 → G3_become_J85 t a1 p2 x.1 x.2.1 y31 μ32 K15 Q))))) ∧ (¬ (r33 = 0) → ((x.2.1 ≤ 0 → G3_become_J62 t a1 p2 x.2.1 (y31 - 48) μ32 K15 Q) ∧ (¬ (x.2.1 ≤ 0) → vp_in (x.2.1 - 1) (ln a1) ∧ G3_isDigit (gI μ32 a1 ((x.2.1 - 1).toNatClampNeg)) μ32 (fun r59 μ58 => ((r59 = 0 → G3_become_J62 t a1 p2 x.2.1 (y31 - 48) μ58 K15 Q) ∧ (¬ (r59 = 0) → G3_become_J63 t a1 p2 x.2.1 1 (y31 - 48) μ58 K15 Q))))))))))
def G3_become (t : Nat) (a1 : Nat) (v2 : Int32) (μ : MM) (Q : MM → Prop) : Prop :=
  Bd (sI μ t 1 0) fun μ26 => Bd (sI μ26 t 3 0) fun μ27 => Lp (G3_become_L15 t a1 v2 Q) (1, 0, μ27)
def G3_isThing_J36  (q0 : Int32) (q1 : Int32) (μ : MM)  (Q : Int32 → MM → Prop) : Prop :=
  ((¬ q1 = q0 → Q 0 μ) ∧ (q1 = q0 → Q 1 μ))
def G3_isThing (v0 : Int32) (v1 : Int32) (μ : MM) (Q : Int32 → MM → Prop) : Prop :=
  GJ0_indexOf_0f7a4 0 ((v0.toUInt32 % 65536).toInt32) μ (fun r4 μ3 => ((10 ≤ r4 → ((r4 = 13 → G3_isThing_J36 0 v1 μ3 Q) ∧ (¬ (r4 = 13) → G3_isThing_J36 1 v1 μ3 Q))) ∧ (¬ (10 ≤ r4) → ((r4 < 0 → Q 0 μ3) ∧ (¬ (r4 < 0) → Q 1 μ3)))))
def G3_firstWrong_J203 (a0 : Nat) (p1 : Int32) (p2 : Int32) (p4 : Int32) (p5 : Int32) (p6 : Int32) (p7 : Int32) (p8 : Int32) (p9 : Int32) (μ : MM) (K28 : Int32 × Int32 × Int32 × Int32 × Int32 × MM → Prop) (Q : Int32 → MM → Prop) : Prop :=
  G3_isJoining p9 μ (fun r38 μ37 => ((r38 = 0 → Q p8 μ37) ∧ (¬ (r38 = 0) → G3_strength p9 μ37 (fun r41 μ40 => ((r41 = 3 → Q p8 μ40) ∧ (¬ (r41 = 3) → G3_strength p9 μ40 (fun r44 μ43 => ((3 ≤ r44 → K28 (1, p4, p5, p6, (p8 + 1), μ43)) ∧ (¬ (3 ≤ r44) → Bd (p6 &&& ((1 <<< (p5 &&& 31)) ^^^ (-1))) fun y46 => K28 (1, p4, p5, y46, (p8 + 1), μ43))))))))))
def G3_firstWrong_J170 (a0 : Nat) (p1 : Int32) (p2 : Int32) (p4 : Int32) (p5 : Int32) (p6 : Int32) (p7 : Int32) (p8 : Int32) (p9 : Int32) (μ : MM) (K28 : Int32 × Int32 × Int32 × Int32 × Int32 × MM → Prop) (Q : Int32 → MM → Prop) : Prop :=
  G3_strength p9 μ (fun r35 μ34 => ((¬ r35 = 3 → G3_firstWrong_J203 a0 p1 p2 p4 p5 p6 p7 p8 p9 μ34 K28 Q) ∧ (r35 = 3 → ((¬ ((p6 >>> (p5 &&& 31)) &&& 1) = 0 → G3_firstWrong_J203 a0 p1 p2 p4 p5 p6 p7 p8 p9 μ34 K28 Q) ∧ (((p6 >>> (p5 &&& 31)) &&& 1) = 0 → Bd (p6 ||| (1 <<< (p5 &&& 31))) fun y48 => K28 (1, p4, p5, y48, (p8 + 1), μ34))))))
def G3_firstWrong_J149 (a0 : Nat) (p1 : Int32) (p2 : Int32) (p3 : Int32) (p4 : Int32) (p5 : Int32) (p6 : Int32) (p7 : Int32) (p8 : Int32) (p9 : Int32) (μ : MM) (K28 : Int32 × Int32 × Int32 × Int32 × Int32 × MM → Prop) (Q : Int32 → MM → Prop) : Prop :=
  ((¬ p9 = 41 → G3_firstWrong_J170 a0 p1 p2 p4 p5 p6 p7 p8 p9 μ K28 Q) ∧ (p9 = 41 → ((p5 ≤ 0 → G3_firstWrong_J170 a0 p1 p2 p4 p5 p6 p7 p8 p9 μ K28 Q) ∧ (¬ (p5 ≤ 0) → K28 (p3, 3, (p5 + (-1)), p6, (p8 + 1), μ)))))
def G3_firstWrong_J92 (a0 : Nat) (p1 : Int32) (p2 : Int32) (p5 : Int32) (p6 : Int32) (p7 : Int32) (p8 : Int32) (p9 : Int32) (μ : MM) (K28 : Int32 × Int32 × Int32 × Int32 × Int32 × MM → Prop) (Q : Int32 → MM → Prop) : Prop :=
  G3_isDigit p9 μ (fun r56 μ55 => ((r56 = 0 → K28 (0, 3, p5, p6, (p8 + 1), μ55)) ∧ (¬ (r56 = 0) → K28 (0, 1, p5, p6, (p8 + 1), μ55))))
def G3_firstWrong_J75 (a0 : Nat) (p1 : Int32) (p2 : Int32) (p3 : Int32) (p4 : Int32) (p5 : Int32) (p6 : Int32) (p7 : Int32) (p8 : Int32) (p9 : Int32) (μ : MM) (K28 : Int32 × Int32 × Int32 × Int32 × Int32 × MM → Prop) (Q : Int32 → MM → Prop) : Prop :=
  G3_isDigit p9 μ (fun r53 μ52 => ((¬ r53 = 0 → G3_firstWrong_J92 a0 p1 p2 p5 p6 p7 p8 p9 μ52 K28 Q) ∧ (r53 = 0 → G3_isThing p9 p2 μ52 (fun r59 μ58 => ((r59 = 0 → ((p9 = 33 → K28 (p3, p4, p5, p6, (p8 + 1), μ58)) ∧ (¬ (p9 = 33) → ((p9 = 45 → K28 (p3, p4, p5, p6, (p8 + 1), μ58)) ∧ (¬ (p9 = 45) → Q p8 μ58))))) ∧ (¬ (r59 = 0) → G3_firstWrong_J92 a0 p1 p2 p5 p6 p7 p8 p9 μ58 K28 Q))))))
def G3_firstWrong_L28 (a0 : Nat) (p1 : Int32) (p2 : Int32) (p7 : Int32)  (Q : Int32 → MM → Prop) (K28 : Int32 × Int32 × Int32 × Int32 × Int32 × MM → Prop) (x : Int32 × Int32 × Int32 × Int32 × Int32 × MM) : Prop :=
  ((p7 ≤ x.2.2.2.2.1 → ((p1 ≤ 40 → ((¬ x.1 = 0 → Q p1 x.2.2.2.2.2) ∧ (x.1 = 0 → ((x.2.2.1 ≤ 0 → Q (-1) x.2.2.2.2.2) ∧ (¬ (x.2.2.1 ≤ 0) → Q p1 x.2.2.2.2.2))))) ∧ (¬ (p1 ≤ 40) → Q 40 x.2.2.2.2.2))) ∧ (¬ (p7 ≤ x.2.2.2.2.1) → vp_in x.2.2.2.2.1 (ln a0) ∧ Bd (gI x.2.2.2.2.2 a0 x.2.2.2.2.1.toNatClampNeg) fun y28 => ((x.1 = 0 → G3_isDigit y28 x.2.2.2.2.2 (fun r31 μ30 => ((r31 = 0 → G3_firstWrong_J149 a0 p1 p2 x.1 x.2.1 x.2.2.1 x.2.2.2.1 p7 x.2.2.2.2.1 y28 μ30 K28 Q) ∧ (¬ (r31 = 0) → ((3 ≤ x.2.1 → G3_firstWrong_J149 a0 p1 p2 x.1 x.2.1 x.2.2.1 x.2.2.2.1 p7 x.2.2.2.2.1 y28 μ30 K28 Q) ∧ (¬ (3 ≤ x.2.1) → K28 (x.1, (x.2.1 + 1), x.2.2.1, x.2.2.2.1, (x.2.2.2.2.1 + 1), μ30))))))) ∧ (¬ (x.1 = 0) → ((¬ y28 = 40 → G3_firstWrong_J75 a0 p1 p2 x.1 x.2.1 x.2.2.1 x.2.2.2.1 p7 x.2.2.2.2.1 y28 x.2.2.2.2.2 K28 Q) ∧ (y28 = 40 → ((5 ≤ x.2.2.1 → G3_firstWrong_J75 a0 p1 p2 x.1 x.2.1 x.2.2.1 x.2.2.2.1 p7 x.2.2.2.2.1 y28 x.2.2.2.2.2 K28 Q) ∧ (¬ (5 ≤ x.2.2.1) → Bd (x.2.2.2.1 &&& ((1 <<< ((x.2.2.1 + 1) &&& 31)) ^^^ (-1))) fun y64 => K28 (x.1, x.2.1, (x.2.2.1 + 1), y64, (x.2.2.2.2.1 + 1), x.2.2.2.2.2)))))))))
def G3_firstWrong (a0 : Nat) (v1 : Int32) (v2 : Int32) (μ : MM) (Q : Int32 → MM → Prop) : Prop :=
  ((40 ≤ v1 → Lp (G3_firstWrong_L28 a0 v1 v2 40 Q) (1, 0, 0, 0, 0, μ)) ∧ (¬ (40 ≤ v1) → Lp (G3_firstWrong_L28 a0 v1 v2 v1 Q) (1, 0, 0, 0, 0, μ)))
def G11_takeText (a1 : Nat) (v2 : Int32) (v3 : Int32) (μ : MM) (Q : Int32 → MM → Prop) : Prop :=
  Bd (gI μ 0 8) fun y10 => Bd (sI μ 0 8 0) fun μ11 => G11_within v2 0 5 μ11 (fun r13 μ12 => ((¬ r13 = 0 → G3_firstWrong 357 y10 v3 μ12 (fun r16 μ15 => ((r16 = (-1) → vp_in v2 (ln a1) ∧ Rl (R0 a1 v2.toNatClampNeg) fun r19 => Ob r19 3 ∧ G3_become r19 357 y10 μ15 (fun μ20 => Q 0 μ20)) ∧ (¬ (r16 = (-1)) → Q ((-1) - r16) μ15)))) ∧ (r13 = 0 → Q (-100) μ12)))
def G11_law (v1 : Int32) (μ : MM) (Q : Int32 → MM → Prop) : Prop :=
  G11_takeText 10 v1 1 μ (fun r4 μ3 => Q r4 μ3)
def G11_filter (v1 : Int32) (μ : MM) (Q : Int32 → MM → Prop) : Prop :=
  G11_takeText 11 v1 0 μ (fun r4 μ3 => Q r4 μ3)
def G3_isTold (t : Nat) (μ : MM) (Q : Int32 → MM → Prop) : Prop :=
  (((gI μ t 1) ≤ 0 → Q 0 μ) ∧ (¬ ((gI μ t 1) ≤ 0) → Q 1 μ))
def G10_isLaw_J25   (μ : MM)  (Q : Int32 → MM → Prop) : Prop :=
  Q 0 μ
def G10_isLaw (v1 : Int32) (μ : MM) (Q : Int32 → MM → Prop) : Prop :=
  G11_within v1 0 5 μ (fun r7 μ6 => ((r7 = 0 → G10_isLaw_J25 μ6 Q) ∧ (¬ (r7 = 0) → vp_in v1 6 ∧ G3_isTold (115 + 6 * v1.toNatClampNeg) μ6 (fun r11 μ10 => ((r11 = 0 → G10_isLaw_J25 μ10 Q) ∧ (¬ (r11 = 0) → Q 1 μ10))))))
def G3_joined_J94   (μ : MM)  (Q : Int32 → MM → Prop) : Prop :=
  Q 0 μ
def G3_joined (v0 : Int32) (v1 : Int32) (v2 : Int32) (μ : MM) (Q : Int32 → MM → Prop) : Prop :=
  ((v1 = 38 → ((v0 = 0 → G3_joined_J94 μ Q) ∧ (¬ (v0 = 0) → ((v2 = 0 → G3_joined_J94 μ Q) ∧ (¬ (v2 = 0) → Q 1 μ))))) ∧ (v1 = 43 → Q (v0 + v2) μ) ∧ (v1 = 45 → Q (v0 - v2) μ) ∧ (v1 = 60 → ((v2 ≤ v0 → Q 0 μ) ∧ (¬ (v2 ≤ v0) → Q 1 μ))) ∧ (v1 = 61 → ((¬ v0 = v2 → Q 0 μ) ∧ (v0 = v2 → Q 1 μ))) ∧ (v1 = 62 → ((v0 ≤ v2 → Q 0 μ) ∧ (¬ (v0 ≤ v2) → Q 1 μ))) ∧ (v1 = 124 → ((¬ v0 = 0 → Q 1 μ) ∧ (v0 = 0 → ((v2 = 0 → Q 0 μ) ∧ (¬ (v2 = 0) → Q 1 μ))))) ∧ (¬ v1 = 38 → ¬ v1 = 43 → ¬ v1 = 45 → ¬ v1 = 60 → ¬ v1 = 61 → ¬ v1 = 62 → ¬ v1 = 124 → Q (v0 * v2) μ))
def G3_operate_J21 (t : Nat) (q0 : Int32) (μ : MM)  (Q : MM → Prop) : Prop :=
  G3_push t q0 μ (fun μ21 => Q μ21)
def G3_operate (t : Nat) (v1 : Int32) (μ : MM) (Q : MM → Prop) : Prop :=
  G3_pop t μ (fun r11 μ10 => ((¬ v1 = 33 → ((¬ v1 = 126 → G3_pop t μ10 (fun r15 μ14 => G3_joined r15 v1 r11 μ14 (fun r17 μ16 => G3_push t r17 μ16 (fun μ18 => Q μ18)))) ∧ (v1 = 126 → G3_push t (-r11) μ10 (fun μ19 => Q μ19)))) ∧ (v1 = 33 → ((¬ r11 = 0 → G3_operate_J21 t 0 μ10 Q) ∧ (r11 = 0 → G3_operate_J21 t 1 μ10 Q)))))
def G3_result_L7 (t : Nat) (a1 : Nat)   (Q : Int32 → MM → Prop) (K7 : Int32 × MM → Prop) (x : Int32 × MM) : Prop :=
  (((gI x.2 t 1) ≤ x.1 → G3_pop t x.2 (fun r13 μ12 => Q r13 μ12)) ∧ (¬ ((gI x.2 t 1) ≤ x.1) → vp_in x.1 40 ∧ Bd (gI x.2 (t + 1) x.1.toNatClampNeg) fun y15 => ((0 ≤ y15 → ((1000 ≤ y15 → (((Int32.ofNat (ln a1)) ≤ (y15 - 1000) → K7 ((x.1 + 1), x.2)) ∧ (¬ ((Int32.ofNat (ln a1)) ≤ (y15 - 1000)) → vp_in (y15 - 1000) (ln a1) ∧ G3_push t (gI x.2 a1 ((y15 - 1000).toNatClampNeg)) x.2 (fun μ20 => K7 ((x.1 + 1), μ20))))) ∧ (¬ (1000 ≤ y15) → G3_push t y15 x.2 (fun μ21 => K7 ((x.1 + 1), μ21))))) ∧ (¬ (0 ≤ y15) → G3_operate t (-y15) x.2 (fun μ22 => K7 ((x.1 + 1), μ22))))))
def G3_result (t : Nat) (a1 : Nat) (μ : MM) (Q : Int32 → MM → Prop) : Prop :=
  Bd (sI μ t 3 0) fun μ10 => Lp (G3_result_L7 t a1 Q) (0, μ10)
def G10_lookAt (a1 : Nat) (μ : MM) (Q : MM → Prop) : Prop :=
  Bd (sI μ 12 0 (gI μ a1 2)) fun μ22 => Bd (sI μ22 12 1 (gI μ22 a1 3)) fun μ23 => Bd (sI μ23 12 2 (gI μ23 a1 4)) fun μ24 => Bd (sI μ24 12 3 (gI μ24 a1 5)) fun μ25 => vp_in (gI μ25 a1 1) 12 ∧ Bd (sI μ25 12 4 (gI μ25 2 ((gI μ25 a1 1).toNatClampNeg))) fun μ27 => vp_in (gI μ27 a1 1) 12 ∧ Bd (sI μ27 12 5 (gI μ27 3 ((gI μ27 a1 1).toNatClampNeg))) fun μ29 => vp_in (gI μ29 a1 1) 12 ∧ Bd (sI μ29 12 6 (gI μ29 4 ((gI μ29 a1 1).toNatClampNeg))) fun μ31 => vp_in (gI μ31 a1 1) 12 ∧ Bd (sI μ31 12 7 (gI μ31 5 ((gI μ31 a1 1).toNatClampNeg))) fun μ33 => vp_in (gI μ33 a1 0) 24 ∧ Bd (sI μ33 12 8 (gI μ33 6 ((gI μ33 a1 0).toNatClampNeg))) fun μ35 => vp_in (gI μ35 a1 0) 24 ∧ Bd (sI μ35 12 9 (gI μ35 7 ((gI μ35 a1 0).toNatClampNeg))) fun μ37 => Bd (sI μ37 12 10 0) fun μ38 => Bd (sI μ38 12 11 0) fun μ39 => Bd (sI μ39 12 12 0) fun μ40 => (((gI μ40 a1 7) = 0 → Bd (sI μ40 12 13 0) fun μ42 => Q μ42) ∧ (¬ ((gI μ40 a1 7) = 0) → Bd (sI μ40 12 13 1) fun μ43 => Q μ43))
def G10_lookAtHouse_J99  (p1 : Int32) (p2 : Int32) (q0 : Int32) (q1 : Int32) (μ : MM) (K2 : Int32 × MM → Prop) (Q : MM → Prop) : Prop :=
  vp_in q1 14 ∧ Bd (sI μ 12 q1.toNatClampNeg q0) fun μ17 => K2 ((p2 + 1), μ17)
def G10_lookAtHouse_J52  (p1 : Int32) (p2 : Int32) (p3 : Nat) (q0 : Int32) (q1 : Int32) (q2 : Int32) (μ : MM) (K2 : Int32 × MM → Prop) (Q : MM → Prop) : Prop :=
  vp_in q2 14 ∧ Bd (sI μ 12 q2.toNatClampNeg (q1 + q0)) fun μ13 => Bd (sI μ13 12 11 ((gI μ13 12 11) + 1)) fun μ14 => (((gI μ14 p3 2) ≤ (gI μ14 12 12) → G10_lookAtHouse_J99 p1 p2 (gI μ14 12 12) 12 μ14 K2 Q) ∧ (¬ ((gI μ14 p3 2) ≤ (gI μ14 12 12)) → G10_lookAtHouse_J99 p1 p2 (gI μ14 p3 2) 12 μ14 K2 Q))
def G10_lookAtHouse_L2  (p1 : Int32)  (Q : MM → Prop) (K2 : Int32 × MM → Prop) (x : Int32 × MM) : Prop :=
  (((gI x.2 1 10) ≤ x.1 → Q x.2) ∧ (¬ ((gI x.2 1 10) ≤ x.1) → vp_in x.1 96 ∧ ((¬ (gI x.2 (19 + x.1.toNatClampNeg) 0) = p1 → K2 ((x.1 + 1), x.2)) ∧ ((gI x.2 (19 + x.1.toNatClampNeg) 0) = p1 → (((gI x.2 (19 + x.1.toNatClampNeg) 6) = 0 → K2 ((x.1 + 1), x.2)) ∧ (¬ ((gI x.2 (19 + x.1.toNatClampNeg) 6) = 0) → (((gI x.2 (19 + x.1.toNatClampNeg) 7) = 0 → G10_lookAtHouse_J52 p1 x.1 (19 + x.1.toNatClampNeg) 0 (gI x.2 12 10) 10 x.2 K2 Q) ∧ (¬ ((gI x.2 (19 + x.1.toNatClampNeg) 7) = 0) → G10_lookAtHouse_J52 p1 x.1 (19 + x.1.toNatClampNeg) 1 (gI x.2 12 10) 10 x.2 K2 Q))))))))
def G10_lookAtHouse (v1 : Int32) (μ : MM) (Q : MM → Prop) : Prop :=
  Lp (G10_lookAtHouse_L2 v1 Q) (0, μ)
def G10_lawFor (v1 : Int32) (a2 : Nat) (μ : MM) (Q : Int32 → MM → Prop) : Prop :=
  G10_lookAt a2 μ (fun μ6 => G10_lookAtHouse (gI μ6 a2 0) μ6 (fun μ7 => vp_in v1 6 ∧ G3_result (115 + 6 * v1.toNatClampNeg) 12 μ7 (fun r10 μ9 => Q r10 μ9)))
def G11_value_J22   (μ : MM)  (Q : Int32 → MM → Prop) (X : MM → Prop) : Prop :=
  X μ
def G11_value (v1 : Int32) (v2 : Int32) (μ : MM) (Q : Int32 → MM → Prop) (X : MM → Prop) : Prop :=
  G10_isLetter v2 μ (fun r9 μ8 => ((r9 = 0 → G11_value_J22 μ8 Q X) ∧ (¬ (r9 = 0) → G10_isLaw v1 μ8 (fun r12 μ11 => ((¬ r12 = 0 → vp_in v2 96 ∧ G10_lawFor v1 (19 + v2.toNatClampNeg) μ11 (fun r16 μ15 => Q r16 μ15)) ∧ (r12 = 0 → G11_value_J22 μ11 Q X))))))
def G5_becomeRead (t : Nat) (v1 : Int32) (μ : MM) (Q : MM → Prop) : Prop :=
  Bd (sI μ t 6 1) fun μ4 => bo v1 ∧ Bd (sI μ4 t 7 v1) fun μ6 => Q μ6
def G10_isRungByHouse_J41 (a1 : Nat) (q0 : Int32) (μ : MM)  (Q : Int32 → MM → Prop) : Prop :=
  G5_becomeRead a1 q0 μ (fun μ17 => bo (gI μ17 a1 7) ∧ Q (gI μ17 a1 7) μ17)
def G10_isRungByHouse_J40 (a1 : Nat)  (μ : MM)  (Q : Int32 → MM → Prop) : Prop :=
  G10_isRungByHouse_J41 a1 0 μ Q
def G10_isRungByHouse (a1 : Nat) (μ : MM) (Q : Int32 → MM → Prop) : Prop :=
  G10_draw 100 μ (fun r11 μ10 => vp_in (gI μ10 a1 0) 24 ∧ Bd (gI μ10 8 ((gI μ10 a1 0).toNatClampNeg)) fun y13 => G10_isLaw y13 μ10 (fun r15 μ14 => ((r15 = 0 → G10_isRungByHouse_J40 a1 μ14 Q) ∧ (¬ (r15 = 0) → G10_lawFor y13 a1 μ14 (fun r19 μ18 => ((r19 ≤ r11 → G10_isRungByHouse_J40 a1 μ18 Q) ∧ (¬ (r19 ≤ r11) → G10_isRungByHouse_J41 a1 1 μ18 Q)))))))
def G10_nextUnread_J50  (p2 : Int32) (μ : MM) (K4 : Int32 × Int32 × MM → Prop) (Q : Int32 → MM → Prop) : Prop :=
  K4 (p2, (p2 + 1), μ)
def G10_nextUnread_L4    (Q : Int32 → MM → Prop) (K4 : Int32 × Int32 × MM → Prop) (x : Int32 × Int32 × MM) : Prop :=
  (((gI x.2.2 1 10) ≤ x.2.1 → Q x.1 x.2.2) ∧ (¬ ((gI x.2.2 1 10) ≤ x.2.1) → vp_in x.2.1 96 ∧ ((¬ (gI x.2.2 (19 + x.2.1.toNatClampNeg) 6) = 0 → K4 (x.1, (x.2.1 + 1), x.2.2)) ∧ ((gI x.2.2 (19 + x.2.1.toNatClampNeg) 6) = 0 → ((x.1 = (-1) → G10_nextUnread_J50 x.2.1 x.2.2 K4 Q) ∧ (¬ (x.1 = (-1)) → vp_in x.2.1 96 ∧ vp_in x.1 96 ∧ (((gI x.2.2 (19 + x.1.toNatClampNeg) 5) ≤ (gI x.2.2 (19 + x.2.1.toNatClampNeg) 5) → K4 (x.1, (x.2.1 + 1), x.2.2)) ∧ (¬ ((gI x.2.2 (19 + x.1.toNatClampNeg) 5) ≤ (gI x.2.2 (19 + x.2.1.toNatClampNeg) 5)) → G10_nextUnread_J50 x.2.1 x.2.2 K4 Q))))))))
def G10_nextUnread  (μ : MM) (Q : Int32 → MM → Prop) : Prop :=
  Lp (G10_nextUnread_L4 Q) ((-1), 0, μ)
def G10_readNext_L4  (p1 : Int32)  (Q : Int32 → MM → Prop) (K4 : Int32 × Int32 × MM → Prop) (x : Int32 × Int32 × MM) : Prop :=
  ((p1 ≤ x.2.1 → Q x.1 x.2.2) ∧ (¬ (p1 ≤ x.2.1) → G10_nextUnread x.2.2 (fun r10 μ9 => ((¬ r10 = (-1) → vp_in r10 96 ∧ G10_isRungByHouse (19 + r10.toNatClampNeg) μ9 (fun r14 μ13 => ((r14 = 0 → Bd (x.1 + 0) fun y16 => K4 (y16, (x.2.1 + 1), μ13)) ∧ (¬ (r14 = 0) → Bd (x.1 + 1) fun y17 => K4 (y17, (x.2.1 + 1), μ13))))) ∧ (r10 = (-1) → Q x.1 μ9)))))
def G10_readNext (v1 : Int32) (μ : MM) (Q : Int32 → MM → Prop) : Prop :=
  Lp (G10_readNext_L4 v1 Q) (0, 0, μ)
def G11_read (v1 : Int32) (μ : MM) (Q : Int32 → MM → Prop) : Prop :=
  G11_within v1 0 96 μ (fun r6 μ5 => ((r6 = 0 → Q (-1) μ5) ∧ (¬ (r6 = 0) → G10_readNext v1 μ5 (fun r9 μ8 => Q r9 μ8))))
def G11_ring (v1 : Int32) (v2 : Int32) (μ : MM) (Q : Int32 → MM → Prop) : Prop :=
  G10_isLetter v1 μ (fun r7 μ6 => ((r7 = 0 → Q 0 μ6) ∧ (¬ (r7 = 0) → vp_in v1 96 ∧ (((gI μ6 (19 + v1.toNatClampNeg) 6) = 0 → vp_in v1 96 ∧ G5_becomeRead (19 + v1.toNatClampNeg) v2 μ6 (fun μ12 => Q 1 μ12)) ∧ (¬ ((gI μ6 (19 + v1.toNatClampNeg) 6) = 0) → Q 0 μ6)))))
def G10_readAllWithoutRings_L4    (Q : Int32 → MM → Prop) (K4 : Int32 × Int32 × MM → Prop) (x : Int32 × Int32 × MM) : Prop :=
  (((gI x.2.2 1 10) ≤ x.2.1 → Q x.1 x.2.2) ∧ (¬ ((gI x.2.2 1 10) ≤ x.2.1) → vp_in x.2.1 96 ∧ ((¬ (gI x.2.2 (19 + x.2.1.toNatClampNeg) 6) = 0 → K4 (x.1, (x.2.1 + 1), x.2.2)) ∧ ((gI x.2.2 (19 + x.2.1.toNatClampNeg) 6) = 0 → vp_in x.2.1 96 ∧ G5_becomeRead (19 + x.2.1.toNatClampNeg) 0 x.2.2 (fun μ8 => K4 ((x.1 + 1), (x.2.1 + 1), μ8))))))
def G10_readAllWithoutRings  (μ : MM) (Q : Int32 → MM → Prop) : Prop :=
  Lp (G10_readAllWithoutRings_L4 Q) (0, 0, μ)
def G10_asHeld (v0 : Int32) (v1 : Int32) (μ : MM) (Q : Int32 → MM → Prop) : Prop :=
  ((v0 = 0 → Q (v1.toInt8.toInt32) μ) ∧ (v0 = 1 → Q (v1.toInt16.toInt32) μ) ∧ (¬ v0 = 0 → ¬ v0 = 1 → Q v1 μ))
def G10_readAsBoxed_J69  (p1 : Int32) (p2 : Int32) (p3 : Int32) (p4 : Int32) (p5 : Int32) (p6 : Int32) (q0 : Int32) (q1 : Nat) (μ : MM) (K6 : Int32 × Int32 × MM → Prop) (Q : Int32 → MM → Prop) : Prop :=
  G5_becomeRead q1 q0 μ (fun μ15 => K6 ((p5 + 1), (p6 + 1), μ15))
def G10_readAsBoxed_L6  (p1 : Int32) (p2 : Int32) (p3 : Int32) (p4 : Int32)  (Q : Int32 → MM → Prop) (K6 : Int32 × Int32 × MM → Prop) (x : Int32 × Int32 × MM) : Prop :=
  ((p2 ≤ x.2.1 → Q x.1 x.2.2) ∧ (¬ (p2 ≤ x.2.1) → (((gI x.2.2 1 10) ≤ x.2.1 → Q x.1 x.2.2) ∧ (¬ ((gI x.2.2 1 10) ≤ x.2.1) → G10_asHeld p1 (p3 + (x.2.1 * p4)) x.2.2 (fun r9 μ8 => vp_in x.2.1 96 ∧ ((¬ (gI μ8 (19 + x.2.1.toNatClampNeg) 6) = 0 → K6 (x.1, (x.2.1 + 1), μ8)) ∧ ((gI μ8 (19 + x.2.1.toNatClampNeg) 6) = 0 → ((r9 < 0 → K6 (x.1, (x.2.1 + 1), μ8)) ∧ (¬ (r9 < 0) → vp_in x.2.1 96 ∧ ((r9 ≤ 0 → G10_readAsBoxed_J69 p1 p2 p3 p4 x.1 x.2.1 0 (19 + x.2.1.toNatClampNeg) μ8 K6 Q) ∧ (¬ (r9 ≤ 0) → G10_readAsBoxed_J69 p1 p2 p3 p4 x.1 x.2.1 1 (19 + x.2.1.toNatClampNeg) μ8 K6 Q)))))))))))
def G10_readAsBoxed (v1 : Int32) (v2 : Int32) (v3 : Int32) (v4 : Int32) (μ : MM) (Q : Int32 → MM → Prop) : Prop :=
  Lp (G10_readAsBoxed_L6 v1 v2 v3 v4 Q) (0, 0, μ)
def G11_box (v1 : Int32) (v2 : Int32) (v3 : Int32) (v4 : Int32) (μ : MM) (Q : Int32 → MM → Prop) : Prop :=
  G11_within v1 0 3 μ (fun r8 μ7 => ((r8 = 0 → Q (-1) μ7) ∧ (¬ (r8 = 0) → ((v2 ≤ 96 → ((¬ v1 = 3 → ((0 ≤ v2 → G10_readAsBoxed v1 v2 v3 v4 μ7 (fun r14 μ13 => Q r14 μ13)) ∧ (¬ (0 ≤ v2) → Q (-2) μ7))) ∧ (v1 = 3 → G10_readAllWithoutRings μ7 (fun r16 μ15 => Q r16 μ15)))) ∧ (¬ (v2 ≤ 96) → Q (-1) μ7)))))
def G11_after (v1 : Int32) (v2 : Int32) (μ : MM) (Q : Int32 → MM → Prop) : Prop :=
  G10_isLetter v1 μ (fun r11 μ10 => ((r11 = 0 → Q (-1) μ10) ∧ (¬ (r11 = 0) → vp_in v1 96 ∧ (((gI μ10 (19 + v1.toNatClampNeg) 7) = 0 → Q (-1) μ10) ∧ (¬ ((gI μ10 (19 + v1.toNatClampNeg) 7) = 0) → G11_within v2 0 2 μ10 (fun r16 μ15 => ((¬ r16 = 0 → vp_in v1 96 ∧ Bd (gI μ15 (19 + v1.toNatClampNeg) 8) fun y19 => vp_in v1 96 ∧ Bd (sI μ15 (19 + v1.toNatClampNeg) 8 v2) fun μ21 => Q y19 μ21) ∧ (r16 = 0 → Q (-1) μ15))))))))
def G11_seed (v1 : Int32) (μ : MM) (Q : Int32 → MM → Prop) : Prop :=
  Bd (gI μ 1 14) fun y3 => Bd (sI μ 1 14 v1) fun μ4 => Q y3 μ4
def G11_greatestDivisor_L31    (Q : Int64 → MM → Prop) (K31 : Int64 × Int64 × Int32 × MM → Prop) (x : Int64 × Int64 × Int32 × MM) : Prop :=
  ((100 ≤ x.2.2.1 → Q x.1 x.2.2.2) ∧ (¬ (100 ≤ x.2.2.1) → (((lg_cmp x.2.1 0) = 0 → Q x.1 x.2.2.2) ∧ (¬ ((lg_cmp x.2.1 0) = 0) → ¬ x.2.1 = 0 ∧ Bd (x.1 - x.1 / x.2.1 * x.2.1) fun y9 => K31 (x.2.1, y9, (x.2.2.1 + 1), x.2.2.2)))))
def G11_greatestDivisor_J12  (p2 : Int64) (q0 : Int64) (μ : MM)  (Q : Int64 → MM → Prop) : Prop :=
  ((0 ≤ (lg_cmp p2 0) → Lp (G11_greatestDivisor_L31 Q) (q0, p2, 0, μ)) ∧ (¬ (0 ≤ (lg_cmp p2 0)) → Bd (-p2) fun y10 => Lp (G11_greatestDivisor_L31 Q) (q0, y10, 0, μ)))
def G11_greatestDivisor (v0 : Int64) (v2 : Int64) (μ : MM) (Q : Int64 → MM → Prop) : Prop :=
  ((0 ≤ (lg_cmp v0 0) → G11_greatestDivisor_J12 v2 v0 μ Q) ∧ (¬ (0 ≤ (lg_cmp v0 0)) → G11_greatestDivisor_J12 v2 (-v0) μ Q))
def G7_add (v1 : Int64) (μ : MM) (Q : MM → Prop) : Prop :=
  ((10 ≤ (gI μ 151 1) → Q μ) ∧ (¬ (10 ≤ (gI μ 151 1)) → vp_in (gI μ 151 1) 10 ∧ Bd (sJ μ 152 ((gI μ 151 1).toNatClampNeg) v1) fun μ6 => Bd (sI μ6 151 1 ((gI μ6 151 1) + 1)) fun μ7 => Q μ7))
def G7_addFraction (v1 : Int64) (v3 : Int64) (μ : MM) (Q : MM → Prop) : Prop :=
  G11_greatestDivisor v1 v3 μ (fun r8 μ7 => (((lg_cmp r8 0) = 0 → Q μ7) ∧ (¬ ((lg_cmp r8 0) = 0) → ¬ r8 = 0 ∧ G7_add (v1 / r8) μ7 (fun μ11 => ¬ r8 = 0 ∧ G7_add (v3 / r8) μ11 (fun μ13 => Q μ13)))))
def G7_clear  (μ : MM) (Q : MM → Prop) : Prop :=
  Bd (sI μ 151 1 0) fun μ2 => Q μ2
def G9_clear (t : Nat) (μ : MM) (Q : MM → Prop) : Prop :=
  Bd (sI μ (t + 1) 0 0) fun μ5 => Bd (sI μ5 (t + 1) 1 0) fun μ6 => Bd (sI μ6 (t + 2) 0 0) fun μ7 => Bd (sI μ7 (t + 2) 1 0) fun μ8 => Q μ8
def G9_note (t : Nat) (v1 : Int32) (v2 : Int32) (μ : MM) (Q : MM → Prop) : Prop :=
  vp_in v1 2 ∧ vp_in v1 2 ∧ Bd (sI μ (t + 1) v1.toNatClampNeg ((gI μ (t + 1) v1.toNatClampNeg) + 1)) fun μ11 => vp_in v1 2 ∧ ((v2 = 0 → vp_in v1 2 ∧ Bd (sI μ11 (t + 2) v1.toNatClampNeg ((gI μ11 (t + 2) v1.toNatClampNeg) + 0)) fun μ15 => Q μ15) ∧ (¬ (v2 = 0) → vp_in v1 2 ∧ Bd (sI μ11 (t + 2) v1.toNatClampNeg ((gI μ11 (t + 2) v1.toNatClampNeg) + 1)) fun μ17 => Q μ17))
def G10_passes (a1 : Nat) (v2 : Int32) (μ : MM) (Q : Int32 → MM → Prop) : Prop :=
  ((¬ v2 = (-1) → G10_lookAt a1 μ (fun μ6 => vp_in v2 6 ∧ G3_result (118 + 6 * v2.toNatClampNeg) 12 μ6 (fun r9 μ8 => ((r9 = 0 → Q 0 μ8) ∧ (¬ (r9 = 0) → Q 1 μ8))))) ∧ (v2 = (-1) → Q 1 μ))
def G10_peopleOf (a1 : Nat) (μ : MM) (Q : Int32 → MM → Prop) : Prop :=
  vp_in (gI μ a1 1) 12 ∧ Q (gI μ 2 ((gI μ a1 1).toNatClampNeg)) μ
def G8_gather_J58 (a1 : Nat) (p2 : Int32) (p3 : Int32) (p4 : Int32) (p5 : Nat) (q0 : Int32) (μ : MM) (K7 : Int32 × MM → Prop) (Q : MM → Prop) : Prop :=
  ((q0 = 0 → K7 ((p4 + 1), μ)) ∧ (¬ (q0 = 0) → G10_passes p5 p2 μ (fun r14 μ13 => ((r14 = 0 → K7 ((p4 + 1), μ13)) ∧ (¬ (r14 = 0) → G10_peopleOf p5 μ13 (fun r17 μ16 => G9_note a1 r17 (gI μ16 p5 7) μ16 (fun μ18 => K7 ((p4 + 1), μ18))))))))
def G8_gather_J57 (a1 : Nat) (p2 : Int32) (p3 : Int32) (p4 : Int32) (p5 : Nat) (μ : MM) (K7 : Int32 × MM → Prop) (Q : MM → Prop) : Prop :=
  G8_gather_J58 a1 p2 p3 p4 p5 0 μ K7 Q
def G8_gather_J53 (a1 : Nat) (p2 : Int32) (p3 : Int32) (p4 : Int32) (p5 : Nat) (μ : MM) (K7 : Int32 × MM → Prop) (Q : MM → Prop) : Prop :=
  G8_gather_J58 a1 p2 p3 p4 p5 1 μ K7 Q
def G8_gather_L7 (a1 : Nat) (p2 : Int32) (p3 : Int32)  (Q : MM → Prop) (K7 : Int32 × MM → Prop) (x : Int32 × MM) : Prop :=
  (((gI x.2 1 10) ≤ x.1 → Q x.2) ∧ (¬ ((gI x.2 1 10) ≤ x.1) → vp_in x.1 96 ∧ (((gI x.2 (19 + x.1.toNatClampNeg) 6) = 0 → G8_gather_J57 a1 p2 p3 x.1 (19 + x.1.toNatClampNeg) x.2 K7 Q) ∧ (¬ ((gI x.2 (19 + x.1.toNatClampNeg) 6) = 0) → ((p3 = (-1) → G8_gather_J53 a1 p2 p3 x.1 (19 + x.1.toNatClampNeg) x.2 K7 Q) ∧ (¬ (p3 = (-1)) → ((¬ (gI x.2 (19 + x.1.toNatClampNeg) 0) = p3 → G8_gather_J57 a1 p2 p3 x.1 (19 + x.1.toNatClampNeg) x.2 K7 Q) ∧ ((gI x.2 (19 + x.1.toNatClampNeg) 0) = p3 → G8_gather_J53 a1 p2 p3 x.1 (19 + x.1.toNatClampNeg) x.2 K7 Q))))))))
def G8_gather (a1 : Nat) (v2 : Int32) (v3 : Int32) (μ : MM) (Q : MM → Prop) : Prop :=
  G9_clear a1 μ (fun μ8 => Lp (G8_gather_L7 a1 v2 v3 Q) (0, μ8))
def G9_all (t : Nat) (μ : MM) (Q : Int32 → MM → Prop) : Prop :=
  Q ((gI μ (t + 1) 0) + (gI μ (t + 1) 1)) μ
def G10_isFilter_J30   (μ : MM)  (Q : Int32 → MM → Prop) : Prop :=
  Q 0 μ
def G10_isFilter (v1 : Int32) (μ : MM) (Q : Int32 → MM → Prop) : Prop :=
  ((v1 = (-1) → Q 1 μ) ∧ (¬ (v1 = (-1)) → G11_within v1 0 5 μ (fun r8 μ7 => ((r8 = 0 → G10_isFilter_J30 μ7 Q) ∧ (¬ (r8 = 0) → vp_in v1 6 ∧ G3_isTold (118 + 6 * v1.toNatClampNeg) μ7 (fun r12 μ11 => ((r12 = 0 → G10_isFilter_J30 μ11 Q) ∧ (¬ (r12 = 0) → Q 1 μ11))))))))
def G8_tellShare_J75   (μ : MM)  (Q : Int32 → MM → Prop) : Prop :=
  G9_all 154 μ (fun r21 μ20 => Q r21 μ20)
def G8_tellShare (v1 : Int32) (μ : MM) (Q : Int32 → MM → Prop) : Prop :=
  G10_isFilter v1 μ (fun r13 μ12 => ((¬ r13 = 0 → G8_gather 154 v1 (-1) μ12 (fun μ15 => G7_clear μ15 (fun μ16 => G9_all 154 μ16 (fun r18 μ17 => ((r18 ≤ 0 → G8_tellShare_J75 μ17 Q) ∧ (¬ (r18 ≤ 0) → G9_all 154 μ17 (fun r23 μ22 => G7_addFraction (((gI μ17 156 0) + (gI μ17 156 1)).toInt64) (r23.toInt64) μ22 (fun μ24 => G8_tellShare_J75 μ24 Q)))))))) ∧ (r13 = 0 → Q (-1) μ12)))
def G11_share (v1 : Int32) (μ : MM) (Q : Int32 → MM → Prop) : Prop :=
  G8_tellShare v1 μ (fun r4 μ3 => Q r4 μ3)
def G9_asideLower (t : Nat) (μ : MM) (Q : Int64 → MM → Prop) : Prop :=
  Q (((gI μ (t + 1) 0).toInt64) * ((gI μ (t + 1) 1).toInt64)) μ
def G9_asideUpper (t : Nat) (μ : MM) (Q : Int64 → MM → Prop) : Prop :=
  Q ((((gI μ (t + 2) 0).toInt64) * ((gI μ (t + 1) 1).toInt64)) - (((gI μ (t + 2) 1).toInt64) * ((gI μ (t + 1) 0).toInt64))) μ
def G9_hasBoth_J22 (t : Nat)  (μ : MM)  (Q : Int32 → MM → Prop) : Prop :=
  Q 0 μ
def G9_hasBoth (t : Nat) (μ : MM) (Q : Int32 → MM → Prop) : Prop :=
  (((gI μ (t + 1) 0) ≤ 0 → G9_hasBoth_J22 t μ Q) ∧ (¬ ((gI μ (t + 1) 0) ≤ 0) → (((gI μ (t + 1) 1) ≤ 0 → G9_hasBoth_J22 t μ Q) ∧ (¬ ((gI μ (t + 1) 1) ≤ 0) → Q 1 μ))))
def G8_tellAside_L66    (Q : Int32 → MM → Prop) (K66 : Int32 × MM → Prop) (x : Int32 × MM) : Prop :=
  ((2 ≤ x.1 → Q 0 x.2) ∧ (¬ (2 ≤ x.1) → vp_in x.1 2 ∧ G7_add ((gI x.2 155 x.1.toNatClampNeg).toInt64) x.2 (fun μ31 => vp_in x.1 2 ∧ G7_add ((gI μ31 156 x.1.toNatClampNeg).toInt64) μ31 (fun μ33 => K66 ((x.1 + 1), μ33)))))
def G8_tellAside (v1 : Int32) (μ : MM) (Q : Int32 → MM → Prop) : Prop :=
  G10_isFilter v1 μ (fun r17 μ16 => ((¬ r17 = 0 → G8_gather 154 v1 (-1) μ16 (fun μ19 => G9_hasBoth 154 μ19 (fun r21 μ20 => ((¬ r21 = 0 → G7_clear μ20 (fun μ23 => G9_asideUpper 154 μ23 (fun r25 μ24 => G9_asideLower 154 μ24 (fun r27 μ26 => G7_addFraction r25 r27 μ26 (fun μ28 => Lp (G8_tellAside_L66 Q) (0, μ28)))))) ∧ (r21 = 0 → Q (-2) μ20))))) ∧ (r17 = 0 → Q (-1) μ16)))
def G11_aside (v1 : Int32) (μ : MM) (Q : Int32 → MM → Prop) : Prop :=
  G8_tellAside v1 μ (fun r4 μ3 => Q r4 μ3)
def G11_choices_L16  (p0 : Int32) (p1 : Int32)  (Q : Int64 → MM → Prop) (K16 : Int64 × Int32 × MM → Prop) (x : Int64 × Int32 × MM) : Prop :=
  ((p1 < x.2.1 → Q x.1 x.2.2) ∧ (¬ (p1 < x.2.1) → ¬ (x.2.1.toInt64) = 0 ∧ Bd ((x.1 * (((p0 - p1) + x.2.1).toInt64)) / (x.2.1.toInt64)) fun y7 => K16 (y7, (x.2.1 + 1), x.2.2)))
def G11_choices (v0 : Int32) (v1 : Int32) (μ : MM) (Q : Int64 → MM → Prop) : Prop :=
  ((v1 < 0 → Q 0 μ) ∧ (¬ (v1 < 0) → ((v1 ≤ v0 → Lp (G11_choices_L16 v0 v1 Q) (1, 1, μ)) ∧ (¬ (v1 ≤ v0) → Q 0 μ))))
def G8_joinWaysOfPart_L43  (p1 : Int32) (p2 : Int32) (p3 : Int32) (K33 : Int32 × MM → Prop) (Q : MM → Prop) (K43 : Int64 × Int32 × MM → Prop) (x : Int64 × Int32 × MM) : Prop :=
  ((p1 < x.2.1 → vp_in p3 97 ∧ Bd (sJ x.2.2 163 p3.toNatClampNeg x.1) fun μ23 => K33 ((p3 + (-1)), μ23)) ∧ (¬ (p1 < x.2.1) → ((p3 < x.2.1 → vp_in p3 97 ∧ Bd (sJ x.2.2 163 p3.toNatClampNeg x.1) fun μ26 => K33 ((p3 + (-1)), μ26)) ∧ (¬ (p3 < x.2.1) → G11_choices p1 x.2.1 x.2.2 (fun r28 μ27 => G11_choices p2 ((gI μ27 158 1) - x.2.1) μ27 (fun r30 μ29 => Bd (r28 * r30) fun y31 => vp_in (p3 - x.2.1) 97 ∧ Bd (x.1 + ((gJ μ29 163 ((p3 - x.2.1).toNatClampNeg)) * y31)) fun y33 => K43 (y33, (x.2.1 + 1), μ29)))))))
def G8_joinWaysOfPart_L33  (p1 : Int32) (p2 : Int32)  (Q : MM → Prop) (K33 : Int32 × MM → Prop) (x : Int32 × MM) : Prop :=
  ((x.1 < 0 → Q x.2) ∧ (¬ (x.1 < 0) → Lp (G8_joinWaysOfPart_L43 p1 p2 x.1 K33 Q) (0, 0, x.2)))
def G8_joinWaysOfPart  (μ : MM) (Q : MM → Prop) : Prop :=
  Bd ((gI μ 159 0) + (gI μ 159 1)) fun y16 => G9_all 157 μ (fun r18 μ17 => Bd (r18 - y16) fun y19 => Lp (G8_joinWaysOfPart_L33 y16 y19 Q) (96, μ17))
def G8_countWays_L31  (p1 : Int32)  (Q : MM → Prop) (K31 : Int32 × MM → Prop) (x : Int32 × MM) : Prop :=
  (((gI x.2 1 8) ≤ x.1 → Q x.2) ∧ (¬ ((gI x.2 1 8) ≤ x.1) → G8_gather 157 p1 x.1 x.2 (fun μ11 => G9_all 157 μ11 (fun r13 μ12 => ((r13 ≤ 0 → K31 ((x.1 + 1), μ12)) ∧ (¬ (r13 ≤ 0) → G8_joinWaysOfPart μ12 (fun μ15 => K31 ((x.1 + 1), μ15))))))))
def G8_countWays_L2  (p1 : Int32)  (Q : MM → Prop) (K2 : Int32 × MM → Prop) (x : Int32 × MM) : Prop :=
  ((96 < x.1 → Lp (G8_countWays_L31 p1 Q) (0, x.2)) ∧ (¬ (96 < x.1) → ((¬ x.1 = 0 → vp_in x.1 97 ∧ Bd (sJ x.2 163 x.1.toNatClampNeg 0) fun μ18 => K2 ((x.1 + 1), μ18)) ∧ (x.1 = 0 → vp_in x.1 97 ∧ Bd (sJ x.2 163 x.1.toNatClampNeg 1) fun μ20 => K2 ((x.1 + 1), μ20)))))
def G8_countWays (v1 : Int32) (μ : MM) (Q : MM → Prop) : Prop :=
  Lp (G8_countWays_L2 v1 Q) (0, μ)
def G8_tellOdds_J131  (p2 : Int32) (p3 : Int32) (p6 : Int64) (p8 : Int32) (q0 : Int64) (q1 : Int64) (μ : MM) (K56 : Int64 × Int64 × Int32 × MM → Prop) (Q : Int32 → MM → Prop) : Prop :=
  Bd (q1 + q0) fun y30 => vp_in p8 97 ∧ Bd (p6 + (gJ μ 163 p8.toNatClampNeg)) fun y32 => K56 (y30, y32, (p8 + 1), μ)
def G8_tellOdds_J111  (p2 : Int32) (p3 : Int32) (p4 : Int64) (p6 : Int64) (p8 : Int32) (q0 : Int32) (μ : MM) (K56 : Int64 × Int64 × Int32 × MM → Prop) (Q : Int32 → MM → Prop) : Prop :=
  ((q0 = 0 → G8_tellOdds_J131 p2 p3 p6 p8 0 p4 μ K56 Q) ∧ (¬ (q0 = 0) → vp_in p8 97 ∧ G8_tellOdds_J131 p2 p3 p6 p8 (gJ μ 163 p8.toNatClampNeg) p4 μ K56 Q))
def G8_tellOdds_L56  (p2 : Int32) (p3 : Int32)  (Q : Int32 → MM → Prop) (K56 : Int64 × Int64 × Int32 × MM → Prop) (x : Int64 × Int64 × Int32 × MM) : Prop :=
  ((96 < x.2.2.1 → G7_clear x.2.2.2 (fun μ24 => G7_addFraction x.1 x.2.1 μ24 (fun μ25 => Q 0 μ25))) ∧ (¬ (96 < x.2.2.1) → ((¬ p2 = 0 → ((¬ p2 = 1 → ((¬ x.2.2.1 = p3 → G8_tellOdds_J111 p2 p3 x.1 x.2.1 x.2.2.1 0 x.2.2.2 K56 Q) ∧ (x.2.2.1 = p3 → G8_tellOdds_J111 p2 p3 x.1 x.2.1 x.2.2.1 1 x.2.2.2 K56 Q))) ∧ (p2 = 1 → ((x.2.2.1 < p3 → G8_tellOdds_J111 p2 p3 x.1 x.2.1 x.2.2.1 0 x.2.2.2 K56 Q) ∧ (¬ (x.2.2.1 < p3) → G8_tellOdds_J111 p2 p3 x.1 x.2.1 x.2.2.1 1 x.2.2.2 K56 Q))))) ∧ (p2 = 0 → ((p3 < x.2.2.1 → G8_tellOdds_J111 p2 p3 x.1 x.2.1 x.2.2.1 0 x.2.2.2 K56 Q) ∧ (¬ (p3 < x.2.2.1) → G8_tellOdds_J111 p2 p3 x.1 x.2.1 x.2.2.1 1 x.2.2.2 K56 Q))))))
def G8_tellOdds (v1 : Int32) (v2 : Int32) (μ : MM) (Q : Int32 → MM → Prop) : Prop :=
  G10_isFilter v1 μ (fun r15 μ14 => ((r15 = 0 → Q (-1) μ14) ∧ (¬ (r15 = 0) → G11_within v2 0 2 μ14 (fun r18 μ17 => ((¬ r18 = 0 → G8_countWays v1 μ17 (fun μ20 => G8_gather 154 v1 (-1) μ20 (fun μ21 => Bd (gI μ21 156 1) fun y22 => Lp (G8_tellOdds_L56 v2 y22 Q) (0, 0, 0, μ21)))) ∧ (r18 = 0 → Q (-1) μ17))))))
def G11_odds (v1 : Int32) (v2 : Int32) (μ : MM) (Q : Int32 → MM → Prop) : Prop :=
  G8_tellOdds v1 v2 μ (fun r4 μ3 => Q r4 μ3)
def G9_becomeWithout_L2 (t : Nat) (a1 : Nat) (a2 : Nat)   (Q : MM → Prop) (K2 : Int32 × MM → Prop) (x : Int32 × MM) : Prop :=
  ((2 ≤ x.1 → Q x.2) ∧ (¬ (2 ≤ x.1) → vp_in x.1 2 ∧ vp_in x.1 2 ∧ vp_in x.1 2 ∧ Bd (sI x.2 (t + 1) x.1.toNatClampNeg ((gI x.2 (a1 + 1) x.1.toNatClampNeg) - (gI x.2 (a2 + 1) x.1.toNatClampNeg))) fun μ13 => vp_in x.1 2 ∧ vp_in x.1 2 ∧ vp_in x.1 2 ∧ Bd (sI μ13 (t + 2) x.1.toNatClampNeg ((gI μ13 (a1 + 2) x.1.toNatClampNeg) - (gI μ13 (a2 + 2) x.1.toNatClampNeg))) fun μ17 => K2 ((x.1 + 1), μ17)))
def G9_becomeWithout (t : Nat) (a1 : Nat) (a2 : Nat) (μ : MM) (Q : MM → Prop) : Prop :=
  Lp (G9_becomeWithout_L2 t a1 a2 Q) (0, μ)
def G8_tellHeaviest_J179  (p6 : Int32) (p9 : Int64) (p11 : Int64) (μ : MM) (K33 : Int32 × Int64 × Int64 × Int32 × MM → Prop) (Q : Int32 → MM → Prop) : Prop :=
  K33 (p6, p9, p11, (p6 + 1), μ)
def G8_tellHeaviest_J142  (p1 : Int32) (p2 : Int64) (p4 : Int64) (p6 : Int32) (q0 : Int64) (μ : MM) (K33 : Int32 × Int64 × Int64 × Int32 × MM → Prop) (Q : Int32 → MM → Prop) : Prop :=
  G9_asideLower 154 μ (fun r65 μ64 => G9_asideLower 160 μ64 (fun r67 μ66 => Bd (r65 * r67) fun y68 => ((p1 = (-1) → G8_tellHeaviest_J179 p6 q0 y68 μ66 K33 Q) ∧ (¬ (p1 = (-1)) → (((lg_cmp (q0 * p4) (p2 * y68)) ≤ 0 → K33 (p1, p2, p4, (p6 + 1), μ66)) ∧ (¬ ((lg_cmp (q0 * p4) (p2 * y68)) ≤ 0) → G8_tellHeaviest_J179 p6 q0 y68 μ66 K33 Q))))))
def G8_tellHeaviest_L33    (Q : Int32 → MM → Prop) (K33 : Int32 × Int64 × Int64 × Int32 × MM → Prop) (x : Int32 × Int64 × Int64 × Int32 × MM) : Prop :=
  (((gI x.2.2.2.2 1 8) ≤ x.2.2.2.1 → ((¬ x.1 = (-1) → G8_gather 157 (-1) x.1 x.2.2.2.2 (fun μ38 => G9_becomeWithout 160 154 157 μ38 (fun μ39 => G7_clear μ39 (fun μ40 => G9_asideUpper 160 μ40 (fun r42 μ41 => G9_asideLower 160 μ41 (fun r44 μ43 => G7_addFraction r42 r44 μ43 (fun μ45 => Q x.1 μ45))))))) ∧ (x.1 = (-1) → Q (-2) x.2.2.2.2))) ∧ (¬ ((gI x.2.2.2.2 1 8) ≤ x.2.2.2.1) → G8_gather 157 (-1) x.2.2.2.1 x.2.2.2.2 (fun μ46 => G9_becomeWithout 160 154 157 μ46 (fun μ47 => G9_all 157 μ47 (fun r49 μ48 => ((r49 = 0 → K33 (x.1, x.2.1, x.2.2.1, (x.2.2.2.1 + 1), μ48)) ∧ (¬ (r49 = 0) → G9_hasBoth 160 μ48 (fun r52 μ51 => ((¬ r52 = 0 → G9_asideUpper 154 μ51 (fun r55 μ54 => G9_asideLower 160 μ54 (fun r57 μ56 => G9_asideUpper 160 μ56 (fun r59 μ58 => G9_asideLower 154 μ58 (fun r61 μ60 => Bd ((r55 * r57) - (r59 * r61)) fun y62 => ((0 ≤ (lg_cmp y62 0) → G8_tellHeaviest_J142 x.1 x.2.1 x.2.2.1 x.2.2.2.1 y62 μ60 K33 Q) ∧ (¬ (0 ≤ (lg_cmp y62 0)) → G8_tellHeaviest_J142 x.1 x.2.1 x.2.2.1 x.2.2.2.1 (-y62) μ60 K33 Q))))))) ∧ (r52 = 0 → K33 (x.1, x.2.1, x.2.2.1, (x.2.2.2.1 + 1), μ51)))))))))))
def G8_tellHeaviest  (μ : MM) (Q : Int32 → MM → Prop) : Prop :=
  G8_gather 154 (-1) (-1) μ (fun μ32 => G9_hasBoth 154 μ32 (fun r34 μ33 => ((¬ r34 = 0 → Lp (G8_tellHeaviest_L33 Q) ((-1), 0, 1, 0, μ33)) ∧ (r34 = 0 → Q (-2) μ33))))
def G11_weighs  (μ : MM) (Q : Int32 → MM → Prop) : Prop :=
  G8_tellHeaviest μ (fun r4 μ3 => Q r4 μ3)
def G8_gatherNames_L105    (Q : Int32 → MM → Prop) (K105 : Int32 × Int32 × MM → Prop) (x : Int32 × Int32 × MM) : Prop :=
  (((gI x.2.2 1 4) ≤ x.2.1 → Q x.1 x.2.2) ∧ (¬ ((gI x.2.2 1 4) ≤ x.2.1) → vp_in x.2.1 12 ∧ (((gI x.2.2 164 x.2.1.toNatClampNeg) ≤ 0 → K105 (x.1, (x.2.1 + 1), x.2.2)) ∧ (¬ ((gI x.2.2 164 x.2.1.toNatClampNeg) ≤ 0) → vp_in x.1 12 ∧ Bd (sI x.2.2 166 x.1.toNatClampNeg x.2.1) fun μ21 => K105 ((x.1 + 1), (x.2.1 + 1), μ21)))))
def G8_gatherNames_J93  (p1 : Int32) (q0 : Int32) (q1 : Int32) (q2 : Int32) (μ : MM) (K30 : Int32 × MM → Prop) (Q : Int32 → MM → Prop) : Prop :=
  vp_in q2 12 ∧ Bd (sI μ 165 q2.toNatClampNeg (q1 + q0)) fun μ30 => K30 ((p1 + 1), μ30)
def G8_gatherNames_L30    (Q : Int32 → MM → Prop) (K30 : Int32 × MM → Prop) (x : Int32 × MM) : Prop :=
  (((gI x.2 1 10) ≤ x.1 → Lp (G8_gatherNames_L105 Q) (0, 0, x.2)) ∧ (¬ ((gI x.2 1 10) ≤ x.1) → vp_in x.1 96 ∧ (((gI x.2 (19 + x.1.toNatClampNeg) 6) = 0 → K30 ((x.1 + 1), x.2)) ∧ (¬ ((gI x.2 (19 + x.1.toNatClampNeg) 6) = 0) → vp_in (gI x.2 (19 + x.1.toNatClampNeg) 1) 12 ∧ vp_in (gI x.2 (19 + x.1.toNatClampNeg) 1) 12 ∧ Bd (sI x.2 164 ((gI x.2 (19 + x.1.toNatClampNeg) 1).toNatClampNeg) ((gI x.2 164 ((gI x.2 (19 + x.1.toNatClampNeg) 1).toNatClampNeg)) + 1)) fun μ26 => vp_in (gI μ26 (19 + x.1.toNatClampNeg) 1) 12 ∧ (((gI μ26 (19 + x.1.toNatClampNeg) 7) = 0 → G8_gatherNames_J93 x.1 0 (gI μ26 165 ((gI μ26 (19 + x.1.toNatClampNeg) 1).toNatClampNeg)) (gI μ26 (19 + x.1.toNatClampNeg) 1) μ26 K30 Q) ∧ (¬ ((gI μ26 (19 + x.1.toNatClampNeg) 7) = 0) → G8_gatherNames_J93 x.1 1 (gI μ26 165 ((gI μ26 (19 + x.1.toNatClampNeg) 1).toNatClampNeg)) (gI μ26 (19 + x.1.toNatClampNeg) 1) μ26 K30 Q))))))
def G8_gatherNames_L2    (Q : Int32 → MM → Prop) (K2 : Int32 × MM → Prop) (x : Int32 × MM) : Prop :=
  ((12 ≤ x.1 → Lp (G8_gatherNames_L30 Q) (0, x.2)) ∧ (¬ (12 ≤ x.1) → vp_in x.1 12 ∧ Bd (sI x.2 164 x.1.toNatClampNeg 0) fun μ32 => vp_in x.1 12 ∧ Bd (sI μ32 165 x.1.toNatClampNeg 0) fun μ34 => K2 ((x.1 + 1), μ34)))
def G8_gatherNames  (μ : MM) (Q : Int32 → MM → Prop) : Prop :=
  Lp (G8_gatherNames_L2 Q) (0, μ)
def G8_tellName (v1 : Int32) (μ : MM) (Q : Int32 → MM → Prop) : Prop :=
  G10_isName v1 μ (fun r13 μ12 => ((¬ r13 = 0 → G8_gatherNames μ12 (fun r16 μ15 => G7_clear μ15 (fun μ17 => vp_in v1 12 ∧ (((gI μ17 164 v1.toNatClampNeg) ≤ 0 → vp_in v1 12 ∧ Q (gI μ17 164 v1.toNatClampNeg) μ17) ∧ (¬ ((gI μ17 164 v1.toNatClampNeg) ≤ 0) → vp_in v1 12 ∧ vp_in v1 12 ∧ G7_addFraction ((gI μ17 165 v1.toNatClampNeg).toInt64) ((gI μ17 164 v1.toNatClampNeg).toInt64) μ17 (fun μ23 => vp_in v1 12 ∧ Q (gI μ23 164 v1.toNatClampNeg) μ23)))))) ∧ (r13 = 0 → Q (-1) μ12)))
def G11_names (v1 : Int32) (μ : MM) (Q : Int32 → MM → Prop) : Prop :=
  G8_tellName v1 μ (fun r4 μ3 => Q r4 μ3)
def G11_leastMultiple (v0 : Int64) (v2 : Int64) (μ : MM) (Q : Int64 → MM → Prop) : Prop :=
  G11_greatestDivisor v0 v2 μ (fun r5 μ4 => ((¬ (lg_cmp r5 0) = 0 → ¬ r5 = 0 ∧ Q ((v0 / r5) * v2) μ4) ∧ ((lg_cmp r5 0) = 0 → Q 0 μ4)))
def G8_scaleShares_L38  (p1 : Int32) (p2 : Int64)  (Q : MM → Prop) (K38 : Int32 × MM → Prop) (x : Int32 × MM) : Prop :=
  ((p1 ≤ x.1 → Q x.2) ∧ (¬ (p1 ≤ x.1) → vp_in x.1 12 ∧ vp_in (gI x.2 166 x.1.toNatClampNeg) 12 ∧ Bd (gI x.2 164 ((gI x.2 166 x.1.toNatClampNeg).toNatClampNeg)) fun y19 => ((y19 ≤ 0 → vp_in x.1 12 ∧ Bd (sJ x.2 167 x.1.toNatClampNeg 0) fun μ22 => K38 ((x.1 + 1), μ22)) ∧ (¬ (y19 ≤ 0) → vp_in x.1 12 ∧ vp_in (gI x.2 166 x.1.toNatClampNeg) 12 ∧ ¬ (y19.toInt64) = 0 ∧ vp_in x.1 12 ∧ Bd (sJ x.2 167 x.1.toNatClampNeg (((gI x.2 165 ((gI x.2 166 x.1.toNatClampNeg).toNatClampNeg)).toInt64) * (p2 / (y19.toInt64)))) fun μ27 => K38 ((x.1 + 1), μ27)))))
def G8_scaleShares_L5  (p1 : Int32)  (Q : MM → Prop) (K5 : Int64 × Int32 × MM → Prop) (x : Int64 × Int32 × MM) : Prop :=
  ((p1 ≤ x.2.1 → Lp (G8_scaleShares_L38 p1 x.1 Q) (0, x.2.2)) ∧ (¬ (p1 ≤ x.2.1) → vp_in x.2.1 12 ∧ vp_in (gI x.2.2 166 x.2.1.toNatClampNeg) 12 ∧ G11_leastMultiple x.1 ((gI x.2.2 164 ((gI x.2.2 166 x.2.1.toNatClampNeg).toNatClampNeg)).toInt64) x.2.2 (fun r31 μ30 => K5 (r31, (x.2.1 + 1), μ30))))
def G8_scaleShares (v1 : Int32) (μ : MM) (Q : MM → Prop) : Prop :=
  Lp (G8_scaleShares_L5 v1 Q) (1, 0, μ)
def G8_sumOfShares_L5  (p1 : Int32) (p2 : Int32)  (Q : Int64 → MM → Prop) (K5 : Int64 × Int32 × MM → Prop) (x : Int64 × Int32 × MM) : Prop :=
  ((p2 ≤ x.2.1 → Q x.1 x.2.2) ∧ (¬ (p2 ≤ x.2.1) → ((¬ ((p1 >>> (x.2.1 &&& 31)) &&& 1) = 1 → Bd (x.1 + 0) fun y6 => K5 (y6, (x.2.1 + 1), x.2.2)) ∧ (((p1 >>> (x.2.1 &&& 31)) &&& 1) = 1 → vp_in x.2.1 12 ∧ Bd (x.1 + (gJ x.2.2 167 x.2.1.toNatClampNeg)) fun y8 => K5 (y8, (x.2.1 + 1), x.2.2)))))
def G8_sumOfShares (v1 : Int32) (v2 : Int32) (μ : MM) (Q : Int64 → MM → Prop) : Prop :=
  Lp (G8_sumOfShares_L5 v1 v2 Q) (0, 0, μ)
def GJ6_bitCount_0f7a4 (v0 : Int32) (μ : MM) (Q : Int32 → MM → Prop) : Prop :=
  Bd (v0 - (((v0.toUInt32 >>> ((1 : Int32).toUInt32 &&& Int32.toUInt32 31)).toInt32) &&& 1431655765)) fun y6 => Bd ((y6 &&& 858993459) + (((y6.toUInt32 >>> ((2 : Int32).toUInt32 &&& Int32.toUInt32 31)).toInt32) &&& 858993459)) fun y7 => Bd ((y7 + ((y7.toUInt32 >>> ((4 : Int32).toUInt32 &&& Int32.toUInt32 31)).toInt32)) &&& 252645135) fun y8 => Bd (y8 + ((y8.toUInt32 >>> ((8 : Int32).toUInt32 &&& Int32.toUInt32 31)).toInt32)) fun y9 => Bd (y9 + ((y9.toUInt32 >>> ((16 : Int32).toUInt32 &&& Int32.toUInt32 31)).toInt32)) fun y10 => Q (y10 &&& 63) μ
def G8_tellDrawn_L70  (p1 : Int32) (p3 : Int32) (p4 : Int64)  (Q : Int32 → MM → Prop) (K70 : Int64 × Int32 × MM → Prop) (x : Int64 × Int32 × MM) : Prop :=
  (((1 <<< (p1 &&& 31)) ≤ x.2.1 → G7_clear x.2.2 (fun μ30 => G11_choices p1 p3 μ30 (fun r32 μ31 => G7_addFraction x.1 r32 μ31 (fun μ33 => Q 0 μ33)))) ∧ (¬ ((1 <<< (p1 &&& 31)) ≤ x.2.1) → GJ6_bitCount_0f7a4 x.2.1 x.2.2 (fun r35 μ34 => ((¬ r35 = p3 → K70 (x.1, (x.2.1 + 1), μ34)) ∧ (r35 = p3 → G8_sumOfShares x.2.1 p1 μ34 (fun r38 μ37 => ((0 < (lg_cmp r38 p4) → K70 (x.1, (x.2.1 + 1), μ37)) ∧ (¬ (0 < (lg_cmp r38 p4)) → Bd (x.1 + 1) fun y40 => K70 (y40, (x.2.1 + 1), μ37)))))))))
def G8_tellDrawn_L21  (p1 : Int32)  (Q : Int32 → MM → Prop) (K21 : Int32 × Int32 × MM → Prop) (x : Int32 × Int32 × MM) : Prop :=
  ((p1 ≤ x.2.1 → GJ6_bitCount_0f7a4 x.1 x.2.2 (fun r26 μ25 => G8_sumOfShares x.1 p1 μ25 (fun r28 μ27 => Lp (G8_tellDrawn_L70 p1 r26 r28 Q) (0, 0, μ27)))) ∧ (¬ (p1 ≤ x.2.1) → vp_in x.2.1 12 ∧ vp_in (gI x.2.2 166 x.2.1.toNatClampNeg) 12 ∧ Bd (x.1 ||| ((gI x.2.2 2 ((gI x.2.2 166 x.2.1.toNatClampNeg).toNatClampNeg)) <<< (x.2.1 &&& 31))) fun y43 => K21 (y43, (x.2.1 + 1), x.2.2)))
def G8_tellDrawn  (μ : MM) (Q : Int32 → MM → Prop) : Prop :=
  G8_gatherNames μ (fun r21 μ20 => ((¬ r21 = 0 → G8_scaleShares r21 μ20 (fun μ23 => Lp (G8_tellDrawn_L21 r21 Q) (0, 0, μ23))) ∧ (r21 = 0 → Q (-2) μ20)))
def G11_drawn  (μ : MM) (Q : Int32 → MM → Prop) : Prop :=
  G8_tellDrawn μ (fun r4 μ3 => Q r4 μ3)
def GJ6_compare_7cf53 (v0 : Int32) (v1 : Int32) (μ : MM) (Q : Int32 → MM → Prop) : Prop :=
  ((v1 ≤ v0 → ((¬ v0 = v1 → Q 1 μ) ∧ (v0 = v1 → Q 0 μ))) ∧ (¬ (v1 ≤ v0) → Q (-1) μ))
def G8_compareBy (v1 : Int32) (v2 : Int32) (v3 : Int32) (μ : MM) (Q : Int32 → MM → Prop) : Prop :=
  ((v1 = 0 → vp_in v2 12 ∧ vp_in v3 12 ∧ GJ6_compare_7cf53 (gI μ 2 v2.toNatClampNeg) (gI μ 2 v3.toNatClampNeg) μ (fun r21 μ20 => Q r21 μ20)) ∧ (v1 = 1 → vp_in v2 12 ∧ vp_in v3 12 ∧ GJ6_compare_7cf53 (gI μ 3 v2.toNatClampNeg) (gI μ 3 v3.toNatClampNeg) μ (fun r26 μ25 => Q r26 μ25)) ∧ (v1 = 2 → vp_in v2 12 ∧ vp_in v3 12 ∧ GJ6_compare_7cf53 (gI μ 4 v2.toNatClampNeg) (gI μ 4 v3.toNatClampNeg) μ (fun r31 μ30 => Q r31 μ30)) ∧ (¬ v1 = 0 → ¬ v1 = 1 → ¬ v1 = 2 → vp_in v2 12 ∧ vp_in v3 12 ∧ GJ6_compare_7cf53 (gI μ 5 v2.toNatClampNeg) (gI μ 5 v3.toNatClampNeg) μ (fun r35 μ34 => Q r35 μ34)))
def G8_compareShares (v1 : Int32) (v2 : Int32) (μ : MM) (Q : Int32 → MM → Prop) : Prop :=
  vp_in v1 12 ∧ vp_in v2 12 ∧ vp_in v2 12 ∧ vp_in v1 12 ∧ GJ6_compare_7cf53 ((gI μ 165 v1.toNatClampNeg) * (gI μ 164 v2.toNatClampNeg)) ((gI μ 165 v2.toNatClampNeg) * (gI μ 164 v1.toNatClampNeg)) μ (fun r12 μ11 => Q r12 μ11)
def G8_pairsGoing_L15  (p1 : Int32) (p2 : Int32) (p3 : Int32) (p5 : Int32) (K6 : Int32 × Int32 × MM → Prop) (Q : Int32 → MM → Prop) (K15 : Int32 × Int32 × MM → Prop) (x : Int32 × Int32 × MM) : Prop :=
  ((p5 ≤ x.2.1 → K6 (x.1, (p5 + 1), x.2.2)) ∧ (¬ (p5 ≤ x.2.1) → vp_in p5 12 ∧ vp_in x.2.1 12 ∧ G8_compareBy p1 (gI x.2.2 166 p5.toNatClampNeg) (gI x.2.2 166 x.2.1.toNatClampNeg) x.2.2 (fun r19 μ18 => vp_in p5 12 ∧ vp_in x.2.1 12 ∧ G8_compareShares (gI μ18 166 p5.toNatClampNeg) (gI μ18 166 x.2.1.toNatClampNeg) μ18 (fun r23 μ22 => Bd (r19 * r23) fun y24 => GJ6_compare_7cf53 y24 0 μ22 (fun r26 μ25 => ((¬ r26 = p2 → Bd (x.1 + 0) fun y28 => K15 (y28, (x.2.1 + 1), μ25)) ∧ (r26 = p2 → Bd (x.1 + 1) fun y29 => K15 (y29, (x.2.1 + 1), μ25))))))))
def G8_pairsGoing_L6  (p1 : Int32) (p2 : Int32) (p3 : Int32)  (Q : Int32 → MM → Prop) (K6 : Int32 × Int32 × MM → Prop) (x : Int32 × Int32 × MM) : Prop :=
  ((p3 ≤ x.2.1 → Q x.1 x.2.2) ∧ (¬ (p3 ≤ x.2.1) → Lp (G8_pairsGoing_L15 p1 p2 p3 x.2.1 K6 Q) (x.1, 0, x.2.2)))
def G8_pairsGoing (v1 : Int32) (v2 : Int32) (v3 : Int32) (μ : MM) (Q : Int32 → MM → Prop) : Prop :=
  Lp (G8_pairsGoing_L6 v1 v2 v3 Q) (0, 0, μ)
def G8_tellGoing (v1 : Int32) (μ : MM) (Q : Int32 → MM → Prop) : Prop :=
  G11_within v1 0 3 μ (fun r15 μ14 => ((¬ r15 = 0 → G8_gatherNames μ14 (fun r18 μ17 => G7_clear μ17 (fun μ19 => G8_pairsGoing v1 (-1) r18 μ19 (fun r21 μ20 => G7_add (r21.toInt64) μ20 (fun μ22 => G8_pairsGoing v1 0 r18 μ22 (fun r24 μ23 => G7_add (r24.toInt64) μ23 (fun μ25 => G8_pairsGoing v1 1 r18 μ25 (fun r27 μ26 => Q r27 μ26)))))))) ∧ (r15 = 0 → Q (-1) μ14)))
def G11_goes (v1 : Int32) (μ : MM) (Q : Int32 → MM → Prop) : Prop :=
  G8_tellGoing v1 μ (fun r4 μ3 => Q r4 μ3)
def G8_tellSaid_L12  (p1 : Int32)  (Q : Int32 → MM → Prop) (K12 : Int32 × Int32 × Int32 × MM → Prop) (x : Int32 × Int32 × Int32 × MM) : Prop :=
  ((4 ≤ x.2.2.1 → G7_clear x.2.2.2 (fun μ13 => G7_add (x.2.1.toInt64) μ13 (fun μ14 => Q x.1 μ14))) ∧ (¬ (4 ≤ x.2.2.1) → G8_pairsGoing x.2.2.1 1 p1 x.2.2.2 (fun r16 μ15 => G8_pairsGoing x.2.2.1 (-1) p1 μ15 (fun r18 μ17 => Bd (r16 - r18) fun y19 => (((if 0 ≤ y19 then y19 else 0 - y19) ≤ (if 0 ≤ x.2.1 then x.2.1 else 0 - x.2.1) → K12 (x.1, x.2.1, (x.2.2.1 + 1), μ17)) ∧ (¬ ((if 0 ≤ y19 then y19 else 0 - y19) ≤ (if 0 ≤ x.2.1 then x.2.1 else 0 - x.2.1)) → K12 (x.2.2.1, y19, (x.2.2.1 + 1), μ17)))))))
def G8_tellSaid  (μ : MM) (Q : Int32 → MM → Prop) : Prop :=
  G8_gatherNames μ (fun r11 μ10 => Lp (G8_tellSaid_L12 r11 Q) (0, 0, 0, μ10))
def G11_says  (μ : MM) (Q : Int32 → MM → Prop) : Prop :=
  G8_tellSaid μ (fun r4 μ3 => Q r4 μ3)
def G8_isChildPair_J69   (μ : MM)  (Q : Int32 → MM → Prop) : Prop :=
  Q 0 μ
def G8_isChildPair (v1 : Int32) (v2 : Int32) (v3 : Int32) (μ : MM) (Q : Int32 → MM → Prop) : Prop :=
  vp_in v1 12 ∧ vp_in v2 12 ∧ ((¬ (gI μ 2 v1.toNatClampNeg) = (gI μ 2 v2.toNatClampNeg) → G8_isChildPair_J69 μ Q) ∧ ((gI μ 2 v1.toNatClampNeg) = (gI μ 2 v2.toNatClampNeg) → vp_in v1 12 ∧ vp_in v2 12 ∧ ((¬ (gI μ 3 v1.toNatClampNeg) = (gI μ 3 v2.toNatClampNeg) → G8_isChildPair_J69 μ Q) ∧ ((gI μ 3 v1.toNatClampNeg) = (gI μ 3 v2.toNatClampNeg) → vp_in v1 12 ∧ vp_in v2 12 ∧ ((((gI μ 4 v1.toNatClampNeg) - (gI μ 4 v2.toNatClampNeg)) < v3 → G8_isChildPair_J69 μ Q) ∧ (¬ (((gI μ 4 v1.toNatClampNeg) - (gI μ 4 v2.toNatClampNeg)) < v3) → Q 1 μ))))))
def G8_tellChild_J115  (p1 : Int32) (p2 : Int32) (p3 : Int32) (p4 : Int32) (p6 : Int32) (p7 : Int32) (q0 : Int32) (q1 : Int32) (μ : MM) (K28 : Int32 × Int32 × Int32 × Int32 × MM → Prop) (K37 : Int32 × Int32 × Int32 × Int32 × MM → Prop) (Q : Int32 → MM → Prop) : Prop :=
  Bd (q1 + q0) fun y40 => K37 (p3, p4, y40, (p7 + 1), μ)
def G8_tellChild_J100  (p1 : Int32) (p2 : Int32) (p3 : Int32) (p5 : Int32) (p6 : Int32) (p7 : Int32) (p8 : Int32) (q0 : Int32) (q1 : Int32) (μ : MM) (K28 : Int32 × Int32 × Int32 × Int32 × MM → Prop) (K37 : Int32 × Int32 × Int32 × Int32 × MM → Prop) (Q : Int32 → MM → Prop) : Prop :=
  Bd (q1 + q0) fun y38 => ((0 ≤ p8 → G8_tellChild_J115 p1 p2 p3 y38 p6 p7 0 p5 μ K28 K37 Q) ∧ (¬ (0 ≤ p8) → G8_tellChild_J115 p1 p2 p3 y38 p6 p7 1 p5 μ K28 K37 Q))
def G8_tellChild_L37  (p1 : Int32) (p2 : Int32) (p6 : Int32) (K28 : Int32 × Int32 × Int32 × Int32 × MM → Prop) (Q : Int32 → MM → Prop) (K37 : Int32 × Int32 × Int32 × Int32 × MM → Prop) (x : Int32 × Int32 × Int32 × Int32 × MM) : Prop :=
  ((p2 ≤ x.2.2.2.1 → K28 (x.1, x.2.1, x.2.2.1, (p6 + 1), x.2.2.2.2)) ∧ (¬ (p2 ≤ x.2.2.2.1) → vp_in p6 12 ∧ vp_in x.2.2.2.1 12 ∧ G8_isChildPair (gI x.2.2.2.2 166 p6.toNatClampNeg) (gI x.2.2.2.2 166 x.2.2.2.1.toNatClampNeg) p1 x.2.2.2.2 (fun r31 μ30 => ((r31 = 0 → K37 (x.1, x.2.1, x.2.2.1, (x.2.2.2.1 + 1), μ30)) ∧ (¬ (r31 = 0) → vp_in p6 12 ∧ vp_in x.2.2.2.1 12 ∧ G8_compareShares (gI μ30 166 p6.toNatClampNeg) (gI μ30 166 x.2.2.2.1.toNatClampNeg) μ30 (fun r36 μ35 => ((r36 ≤ 0 → G8_tellChild_J100 p1 p2 (x.1 + 1) x.2.2.1 p6 x.2.2.2.1 r36 0 x.2.1 μ35 K28 K37 Q) ∧ (¬ (r36 ≤ 0) → G8_tellChild_J100 p1 p2 (x.1 + 1) x.2.2.1 p6 x.2.2.2.1 r36 1 x.2.1 μ35 K28 K37 Q))))))))
def G8_tellChild_L28  (p1 : Int32) (p2 : Int32)  (Q : Int32 → MM → Prop) (K28 : Int32 × Int32 × Int32 × Int32 × MM → Prop) (x : Int32 × Int32 × Int32 × Int32 × MM) : Prop :=
  ((p2 ≤ x.2.2.2.1 → G7_clear x.2.2.2.2 (fun μ24 => G7_add (x.1.toInt64) μ24 (fun μ25 => G7_add (x.2.2.1.toInt64) μ25 (fun μ26 => Q x.2.1 μ26)))) ∧ (¬ (p2 ≤ x.2.2.2.1) → Lp (G8_tellChild_L37 p1 p2 x.2.2.2.1 K28 Q) (x.1, x.2.1, x.2.2.1, 0, x.2.2.2.2)))
def G8_tellChild (v1 : Int32) (μ : MM) (Q : Int32 → MM → Prop) : Prop :=
  G11_within v1 1 9 μ (fun r19 μ18 => ((¬ r19 = 0 → G8_gatherNames μ18 (fun r22 μ21 => Lp (G8_tellChild_L28 v1 r22 Q) (0, 0, 0, 0, μ21))) ∧ (r19 = 0 → Q (-1) μ18)))
def G11_child (v1 : Int32) (μ : MM) (Q : Int32 → MM → Prop) : Prop :=
  G8_tellChild v1 μ (fun r4 μ3 => Q r4 μ3)
def G4_rungIn_J64  (p1 : Int32) (p2 : Int32) (p4 : Int32) (q0 : Int32) (μ : MM) (K5 : Int32 × Int32 × MM → Prop) (Q : Int32 → MM → Prop) : Prop :=
  Bd (q0 + 0) fun y9 => K5 (y9, (p4 + 1), μ)
def G4_rungIn_L5  (p1 : Int32) (p2 : Int32)  (Q : Int32 → MM → Prop) (K5 : Int32 × Int32 × MM → Prop) (x : Int32 × Int32 × MM) : Prop :=
  (((gI x.2.2 1 10) ≤ x.2.1 → Q x.1 x.2.2) ∧ (¬ ((gI x.2.2 1 10) ≤ x.2.1) → vp_in x.2.1 96 ∧ ((¬ (gI x.2.2 (19 + x.2.1.toNatClampNeg) 0) = p1 → G4_rungIn_J64 p1 p2 x.2.1 x.1 x.2.2 K5 Q) ∧ ((gI x.2.2 (19 + x.2.1.toNatClampNeg) 0) = p1 → (((gI x.2.2 (19 + x.2.1.toNatClampNeg) 7) = 0 → G4_rungIn_J64 p1 p2 x.2.1 x.1 x.2.2 K5 Q) ∧ (¬ ((gI x.2.2 (19 + x.2.1.toNatClampNeg) 7) = 0) → G10_peopleOf (19 + x.2.1.toNatClampNeg) x.2.2 (fun r12 μ11 => ((¬ r12 = p2 → G4_rungIn_J64 p1 p2 x.2.1 x.1 μ11 K5 Q) ∧ (r12 = p2 → Bd (x.1 + 1) fun y14 => K5 (y14, (x.2.1 + 1), μ11))))))))))
def G4_rungIn (v1 : Int32) (v2 : Int32) (μ : MM) (Q : Int32 → MM → Prop) : Prop :=
  Lp (G4_rungIn_L5 v1 v2 Q) (0, 0, μ)
def G10_hasRead_L2  (p1 : Int32)  (Q : Int32 → MM → Prop) (K2 : Int32 × MM → Prop) (x : Int32 × MM) : Prop :=
  (((gI x.2 1 10) ≤ x.1 → Q 0 x.2) ∧ (¬ ((gI x.2 1 10) ≤ x.1) → vp_in x.1 96 ∧ ((¬ (gI x.2 (19 + x.1.toNatClampNeg) 0) = p1 → K2 ((x.1 + 1), x.2)) ∧ ((gI x.2 (19 + x.1.toNatClampNeg) 0) = p1 → vp_in x.1 96 ∧ (((gI x.2 (19 + x.1.toNatClampNeg) 6) = 0 → K2 ((x.1 + 1), x.2)) ∧ (¬ ((gI x.2 (19 + x.1.toNatClampNeg) 6) = 0) → Q 1 x.2))))))
def G10_hasRead (v1 : Int32) (μ : MM) (Q : Int32 → MM → Prop) : Prop :=
  Lp (G10_hasRead_L2 v1 Q) (0, μ)
def G4_housesWith_J76  (p1 : Int32) (p2 : Int32) (p4 : Int32) (q0 : Int32) (μ : MM) (K25 : Int32 × Int32 × MM → Prop) (Q : Int32 → MM → Prop) : Prop :=
  Bd (q0 + 0) fun y23 => K25 (y23, (p4 + 1), μ)
def G4_housesWith_L25  (p1 : Int32) (p2 : Int32)  (Q : Int32 → MM → Prop) (K25 : Int32 × Int32 × MM → Prop) (x : Int32 × Int32 × MM) : Prop :=
  (((gI x.2.2 1 8) ≤ x.2.1 → Q x.1 x.2.2) ∧ (¬ ((gI x.2.2 1 8) ≤ x.2.1) → G10_hasRead x.2.1 x.2.2 (fun r21 μ20 => ((r21 = 0 → G4_housesWith_J76 p1 p2 x.2.1 x.1 μ20 K25 Q) ∧ (¬ (r21 = 0) → G4_rungIn x.2.1 0 μ20 (fun r25 μ24 => ((¬ r25 = p1 → G4_housesWith_J76 p1 p2 x.2.1 x.1 μ24 K25 Q) ∧ (r25 = p1 → G4_rungIn x.2.1 1 μ24 (fun r28 μ27 => ((¬ r28 = p2 → G4_housesWith_J76 p1 p2 x.2.1 x.1 μ27 K25 Q) ∧ (r28 = p2 → Bd (x.1 + 1) fun y30 => K25 (y30, (x.2.1 + 1), μ27))))))))))))
def G4_housesWith (v1 : Int32) (v2 : Int32) (μ : MM) (Q : Int32 → MM → Prop) : Prop :=
  G11_within v1 0 4 μ (fun r14 μ13 => ((r14 = 0 → Q (-1) μ13) ∧ (¬ (r14 = 0) → G11_within v2 0 4 μ13 (fun r17 μ16 => ((¬ r17 = 0 → Lp (G4_housesWith_L25 v1 v2 Q) (0, 0, μ16)) ∧ (r17 = 0 → Q (-1) μ16))))))
def G11_table (v1 : Int32) (v2 : Int32) (μ : MM) (Q : Int32 → MM → Prop) : Prop :=
  G4_housesWith v1 v2 μ (fun r4 μ3 => Q r4 μ3)
def G4_become (v1 : Int32) (v2 : Int32) (v3 : Int32) (μ : MM) (Q : Int32 → MM → Prop) : Prop :=
  G11_within v1 0 3 μ (fun r12 μ11 => ((r12 = 0 → Q 0 μ11) ∧ (¬ (r12 = 0) → G11_within v2 0 100 μ11 (fun r15 μ14 => ((r15 = 0 → Q 0 μ14) ∧ (¬ (r15 = 0) → G11_within v3 0 100 μ14 (fun r18 μ17 => ((¬ r18 = 0 → vp_in v1 4 ∧ Bd (sI μ17 169 v1.toNatClampNeg v2) fun μ21 => vp_in v1 4 ∧ Bd (sI μ21 170 v1.toNatClampNeg v3) fun μ23 => Q 1 μ23) ∧ (r18 = 0 → Q 0 μ17)))))))))
def G11_kind (v1 : Int32) (v2 : Int32) (v3 : Int32) (μ : MM) (Q : Int32 → MM → Prop) : Prop :=
  G4_become v1 v2 v3 μ (fun r4 μ3 => bo r4 ∧ Q r4 μ3)
def G4_becomePart_L33  (p1 : Int32) (p2 : Int32)  (Q : Int32 → MM → Prop) (K33 : Int32 × Int32 × MM → Prop) (x : Int32 × Int32 × MM) : Prop :=
  ((4 ≤ x.2.1 → ((¬ x.1 = 0 → vp_in p1 4 ∧ Bd (gI x.2.2 171 p1.toNatClampNeg) fun y24 => vp_in p1 4 ∧ Bd (sI x.2.2 171 p1.toNatClampNeg p2) fun μ26 => Q y24 μ26) ∧ (x.1 = 0 → Q (-1) x.2.2))) ∧ (¬ (4 ≤ x.2.1) → vp_in x.2.1 4 ∧ Bd (x.1 + (gI x.2.2 171 x.2.1.toNatClampNeg)) fun y28 => K33 (y28, (x.2.1 + 1), x.2.2)))
def G4_becomePart (v1 : Int32) (v2 : Int32) (μ : MM) (Q : Int32 → MM → Prop) : Prop :=
  G11_within v1 0 3 μ (fun r14 μ13 => ((r14 = 0 → Q (-1) μ13) ∧ (¬ (r14 = 0) → G11_within v2 0 99 μ13 (fun r17 μ16 => ((¬ r17 = 0 → vp_in v1 4 ∧ Bd (v2 - (gI μ16 171 v1.toNatClampNeg)) fun y20 => Lp (G4_becomePart_L33 v1 v2 Q) (y20, 0, μ16)) ∧ (r17 = 0 → Q (-1) μ16))))))
def G11_parts (v1 : Int32) (v2 : Int32) (μ : MM) (Q : Int32 → MM → Prop) : Prop :=
  G4_becomePart v1 v2 μ (fun r4 μ3 => Q r4 μ3)
def G4_likelihood_J96  (p1 : Int32) (p2 : Int32) (p5 : Int32) (q0 : Int64) (q1 : Int64) (μ : MM) (K5 : Int64 × Int32 × MM → Prop) (Q : Int64 → MM → Prop) : Prop :=
  Bd (q1 * q0) fun y16 => K5 (y16, (p5 + 1), μ)
def G4_likelihood_J73  (p1 : Int32) (p2 : Int32) (p3 : Int64) (p5 : Int32) (p6 : Nat) (q0 : Int32) (μ : MM) (K5 : Int64 × Int32 × MM → Prop) (Q : Int64 → MM → Prop) : Prop :=
  (((gI μ p6 7) = 0 → G4_likelihood_J96 p1 p2 p5 ((100 - q0).toInt64) p3 μ K5 Q) ∧ (¬ ((gI μ p6 7) = 0) → G4_likelihood_J96 p1 p2 p5 (q0.toInt64) p3 μ K5 Q))
def G4_likelihood_L5  (p1 : Int32) (p2 : Int32)  (Q : Int64 → MM → Prop) (K5 : Int64 × Int32 × MM → Prop) (x : Int64 × Int32 × MM) : Prop :=
  (((gI x.2.2 1 10) ≤ x.2.1 → Q x.1 x.2.2) ∧ (¬ ((gI x.2.2 1 10) ≤ x.2.1) → vp_in x.2.1 96 ∧ ((¬ (gI x.2.2 (19 + x.2.1.toNatClampNeg) 0) = p1 → K5 (x.1, (x.2.1 + 1), x.2.2)) ∧ ((gI x.2.2 (19 + x.2.1.toNatClampNeg) 0) = p1 → (((gI x.2.2 (19 + x.2.1.toNatClampNeg) 6) = 0 → K5 (x.1, (x.2.1 + 1), x.2.2)) ∧ (¬ ((gI x.2.2 (19 + x.2.1.toNatClampNeg) 6) = 0) → G10_peopleOf (19 + x.2.1.toNatClampNeg) x.2.2 (fun r12 μ11 => ((¬ r12 = 0 → vp_in p2 4 ∧ G4_likelihood_J73 p1 p2 x.1 x.2.1 (19 + x.2.1.toNatClampNeg) (gI μ11 170 p2.toNatClampNeg) μ11 K5 Q) ∧ (r12 = 0 → vp_in p2 4 ∧ G4_likelihood_J73 p1 p2 x.1 x.2.1 (19 + x.2.1.toNatClampNeg) (gI μ11 169 p2.toNatClampNeg) μ11 K5 Q)))))))))
def G4_likelihood (v1 : Int32) (v2 : Int32) (μ : MM) (Q : Int64 → MM → Prop) : Prop :=
  Lp (G4_likelihood_L5 v1 v2 Q) (1, 0, μ)
def G4_sumOfLikely_L69  (p1 : Int32) (p2 : Int32) (p3 : Int64)  (Q : Int32 → MM → Prop) (K69 : Int64 × Int32 × MM → Prop) (x : Int64 × Int32 × MM) : Prop :=
  ((4 ≤ x.2.1 → Q (x.1.toInt32) x.2.2) ∧ (¬ (4 ≤ x.2.1) → ((¬ ((p2 >>> (x.2.1 &&& 31)) &&& 1) = 1 → Bd (x.1 + 0) fun y19 => K69 (y19, (x.2.1 + 1), x.2.2)) ∧ (((p2 >>> (x.2.1 &&& 31)) &&& 1) = 1 → vp_in p1 24 ∧ vp_in x.2.1 4 ∧ ¬ p3 = 0 ∧ Bd (x.1 + (((gJ x.2.2 (173 + p1.toNatClampNeg) x.2.1.toNatClampNeg) * 1000000) / p3)) fun y23 => K69 (y23, (x.2.1 + 1), x.2.2)))))
def G4_sumOfLikely_L5  (p1 : Int32) (p2 : Int32)  (Q : Int32 → MM → Prop) (K5 : Int64 × Int32 × MM → Prop) (x : Int64 × Int32 × MM) : Prop :=
  ((4 ≤ x.2.1 → ((¬ (lg_cmp x.1 0) = 0 → Lp (G4_sumOfLikely_L69 p1 p2 x.1 Q) (0, 0, x.2.2)) ∧ ((lg_cmp x.1 0) = 0 → Q (-2) x.2.2))) ∧ (¬ (4 ≤ x.2.1) → vp_in p1 24 ∧ vp_in x.2.1 4 ∧ G4_likelihood p1 x.2.1 x.2.2 (fun r27 μ26 => vp_in x.2.1 4 ∧ Bd (sJ μ26 (173 + p1.toNatClampNeg) x.2.1.toNatClampNeg (((gI x.2.2 171 x.2.1.toNatClampNeg).toInt64) * r27)) fun μ29 => vp_in p1 24 ∧ vp_in x.2.1 4 ∧ Bd (x.1 + (gJ μ29 (173 + p1.toNatClampNeg) x.2.1.toNatClampNeg)) fun y32 => K5 (y32, (x.2.1 + 1), μ29))))
def G4_sumOfLikely (v1 : Int32) (v2 : Int32) (μ : MM) (Q : Int32 → MM → Prop) : Prop :=
  Lp (G4_sumOfLikely_L5 v1 v2 Q) (0, 0, μ)
def G4_howLikely_J25  (p1 : Int32) (p2 : Int32) (q0 : Int32) (μ : MM)  (Q : Int32 → MM → Prop) : Prop :=
  ((q0 = 0 → Q (-1) μ) ∧ (¬ (q0 = 0) → G4_sumOfLikely p1 (1 <<< (p2 &&& 31)) μ (fun r12 μ11 => Q r12 μ11)))
def G4_howLikely_J24  (p1 : Int32) (p2 : Int32) (μ : MM)  (Q : Int32 → MM → Prop) : Prop :=
  G4_howLikely_J25 p1 p2 0 μ Q
def G4_howLikely (v1 : Int32) (v2 : Int32) (μ : MM) (Q : Int32 → MM → Prop) : Prop :=
  G10_isHouse v1 μ (fun r8 μ7 => ((r8 = 0 → G4_howLikely_J24 v1 v2 μ7 Q) ∧ (¬ (r8 = 0) → G11_within v2 0 3 μ7 (fun r14 μ13 => ((r14 = 0 → G4_howLikely_J24 v1 v2 μ13 Q) ∧ (¬ (r14 = 0) → G4_howLikely_J25 v1 v2 1 μ13 Q))))))
def G11_likely (v1 : Int32) (v2 : Int32) (μ : MM) (Q : Int32 → MM → Prop) : Prop :=
  G4_howLikely v1 v2 μ (fun r4 μ3 => Q r4 μ3)
def G0_stretch_L5 (t : Nat) (p1 : Int32)  (Q : MM → Prop) (K5 : Int32 × MM → Prop) (x : Int32 × MM) : Prop :=
  ((p1 ≤ x.1 → Q x.2) ∧ (¬ (p1 ≤ x.1) → (((Int32.ofNat (ln (t + 1))) ≤ x.1 → Q x.2) ∧ (¬ ((Int32.ofNat (ln (t + 1))) ≤ x.1) → vp_in x.1 (ln (t + 1)) ∧ Bd (sJ x.2 (t + 1) x.1.toNatClampNeg 0) fun μ9 => Bd (sI μ9 t 1 (x.1 + 1)) fun μ10 => K5 ((x.1 + 1), μ10)))))
def G0_stretch (t : Nat) (v1 : Int32) (μ : MM) (Q : MM → Prop) : Prop :=
  Bd (gI μ t 1) fun y5 => Lp (G0_stretch_L5 t v1 Q) (y5, μ)
def G0_carry_L54 (t : Nat)   (Q : MM → Prop) (K54 : MM → Prop) (x : MM) : Prop :=
  (((gI x t 1) ≤ 0 → Q x) ∧ (¬ ((gI x t 1) ≤ 0) → vp_in ((gI x t 1) - 1) (ln (t + 1)) ∧ ((¬ (lg_cmp (gJ x (t + 1) (((gI x t 1) - 1).toNatClampNeg)) 0) = 0 → Q x) ∧ ((lg_cmp (gJ x (t + 1) (((gI x t 1) - 1).toNatClampNeg)) 0) = 0 → Bd (sI x t 1 ((gI x t 1) - 1)) fun μ14 => K54 μ14))))
def G0_carry_L14 (t : Nat)   (Q : MM → Prop) (K14 : Int64 × Int32 × MM → Prop) (x : Int64 × Int32 × MM) : Prop :=
  (((gI x.2.2 t 1) ≤ x.2.1 → Lp (G0_carry_L54 t Q) x.2.2) ∧ (¬ ((gI x.2.2 t 1) ≤ x.2.1) → vp_in x.2.1 (ln (t + 1)) ∧ Bd (x.1 + (gJ x.2.2 (t + 1) x.2.1.toNatClampNeg)) fun y16 => vp_in x.2.1 (ln (t + 1)) ∧ Bd (sJ x.2.2 (t + 1) x.2.1.toNatClampNeg (y16 - y16 / 100000000 * 100000000)) fun μ18 => Bd (y16 / 100000000) fun y19 => K14 (y19, (x.2.1 + 1), μ18)))
def G0_carry (t : Nat) (μ : MM) (Q : MM → Prop) : Prop :=
  G0_stretch t ((gI μ t 1) + 2) μ (fun μ9 => Lp (G0_carry_L14 t Q) (0, 0, μ9))
def G0_become (t : Nat) (v1 : Int32) (μ : MM) (Q : MM → Prop) : Prop :=
  Bd (sI μ t 1 1) fun μ5 => vp_in 0 (ln (t + 1)) ∧ Bd (sJ μ5 (t + 1) 0 (v1.toInt64)) fun μ7 => G0_carry t μ7 (fun μ8 => Q μ8)
def G0_isMoreThan_L35 (t : Nat) (a1 : Nat)   (Q : Int32 → MM → Prop) (K35 : Int32 × MM → Prop) (x : Int32 × MM) : Prop :=
  ((x.1 < 0 → Q 0 x.2) ∧ (¬ (x.1 < 0) → vp_in x.1 (ln (t + 1)) ∧ vp_in x.1 (ln (a1 + 1)) ∧ (((lg_cmp (gJ x.2 (t + 1) x.1.toNatClampNeg) (gJ x.2 (a1 + 1) x.1.toNatClampNeg)) = 0 → K35 ((x.1 + (-1)), x.2)) ∧ (¬ ((lg_cmp (gJ x.2 (t + 1) x.1.toNatClampNeg) (gJ x.2 (a1 + 1) x.1.toNatClampNeg)) = 0) → vp_in x.1 (ln (t + 1)) ∧ vp_in x.1 (ln (a1 + 1)) ∧ (((lg_cmp (gJ x.2 (t + 1) x.1.toNatClampNeg) (gJ x.2 (a1 + 1) x.1.toNatClampNeg)) ≤ 0 → Q 0 x.2) ∧ (¬ ((lg_cmp (gJ x.2 (t + 1) x.1.toNatClampNeg) (gJ x.2 (a1 + 1) x.1.toNatClampNeg)) ≤ 0) → Q 1 x.2))))))
def G0_isMoreThan (t : Nat) (a1 : Nat) (μ : MM) (Q : Int32 → MM → Prop) : Prop :=
  (((gI μ t 1) = (gI μ a1 1) → Bd ((gI μ t 1) - 1) fun y7 => Lp (G0_isMoreThan_L35 t a1 Q) (y7, μ)) ∧ (¬ ((gI μ t 1) = (gI μ a1 1)) → (((gI μ t 1) ≤ (gI μ a1 1) → Q 0 μ) ∧ (¬ ((gI μ t 1) ≤ (gI μ a1 1)) → Q 1 μ))))
def G0_times_L2 (t : Nat) (p1 : Int64)  (Q : MM → Prop) (K2 : Int32 × MM → Prop) (x : Int32 × MM) : Prop :=
  (((gI x.2 t 1) ≤ x.1 → G0_carry t x.2 (fun μ6 => Q μ6)) ∧ (¬ ((gI x.2 t 1) ≤ x.1) → vp_in x.1 (ln (t + 1)) ∧ vp_in x.1 (ln (t + 1)) ∧ Bd (sJ x.2 (t + 1) x.1.toNatClampNeg ((gJ x.2 (t + 1) x.1.toNatClampNeg) * p1)) fun μ9 => K2 ((x.1 + 1), μ9)))
def G0_times (t : Nat) (v1 : Int64) (μ : MM) (Q : MM → Prop) : Prop :=
  Lp (G0_times_L2 t v1 Q) (0, μ)
def G4_tenths (v0 : Int32) (v1 : Int32) (μ : MM) (Q : Int32 → MM → Prop) : Prop :=
  Bd (v0 / 121) fun y4 => Bd ((v0 / 11) - (v0 / 11) / 11 * 11) fun y5 => Bd (v0 - v0 / 11 * 11) fun y6 => ((v1 = 0 → Q y4 μ) ∧ (v1 = 1 → Q y5 μ) ∧ (v1 = 2 → Q y6 μ) ∧ (¬ v1 = 0 → ¬ v1 = 1 → ¬ v1 = 2 → Q (((10 - y4) - y5) - y6) μ))
def G4_isLikelier_L21  (p1 : Int32) (p2 : Int32) (p3 : Int32) (K10 : Int32 × MM → Prop) (Q : Int32 → MM → Prop) (K21 : Int64 × Int32 × MM → Prop) (x : Int64 × Int32 × MM) : Prop :=
  ((4 ≤ x.2.1 → ((¬ (lg_cmp x.1 0) = 0 → Rl (gR x.2.2 168 8) fun r32 => Ob r32 0 ∧ G0_times r32 x.1 x.2.2 (fun μ33 => K10 ((p3 + 1), μ33))) ∧ ((lg_cmp x.1 0) = 0 → Q 0 x.2.2))) ∧ (¬ (4 ≤ x.2.1) → G4_tenths p1 x.2.1 x.2.2 (fun r35 μ34 => vp_in p3 24 ∧ vp_in x.2.1 4 ∧ Bd (x.1 + ((r35.toInt64) * (gJ μ34 (173 + p3.toNatClampNeg) x.2.1.toNatClampNeg))) fun y38 => K21 (y38, (x.2.1 + 1), μ34))))
def G4_isLikelier_L10  (p1 : Int32) (p2 : Int32)  (Q : Int32 → MM → Prop) (K10 : Int32 × MM → Prop) (x : Int32 × MM) : Prop :=
  ((p2 ≤ x.1 → Rl (gR x.2 168 8) fun r21 => Ob r21 0 ∧ Rl (gR x.2 168 7) fun r22 => Ob r22 0 ∧ G0_isMoreThan r21 r22 x.2 (fun r24 μ23 => ((¬ r24 = 0 → Rl (gR μ23 168 7) fun r26 => Ob r26 0 ∧ Rl (gR μ23 168 8) fun r27 => Ob r27 0 ∧ Bd (sR μ23 168 7 (some r27)) fun μ28 => Bd (sR μ28 168 8 (some r26)) fun μ29 => Q 1 μ29) ∧ (r24 = 0 → Q 0 μ23)))) ∧ (¬ (p2 ≤ x.1) → Lp (G4_isLikelier_L21 p1 p2 x.1 K10 Q) (0, 0, x.2)))
def G4_isLikelier (v1 : Int32) (v2 : Int32) (μ : MM) (Q : Int32 → MM → Prop) : Prop :=
  Rl (gR μ 168 8) fun r18 => Ob r18 0 ∧ G0_become r18 1 μ (fun μ19 => Lp (G4_isLikelier_L10 v1 v2 Q) (0, μ19))
def G4_tellFit_L137  (p1 : Int32) (p2 : Int32)  (Q : Int32 → MM → Prop) (K137 : Int32 × MM → Prop) (x : Int32 × MM) : Prop :=
  ((4 ≤ x.1 → Q p1 x.2) ∧ (¬ (4 ≤ x.1) → G4_tenths p2 x.1 x.2 (fun r24 μ23 => G7_add (r24.toInt64) μ23 (fun μ25 => K137 ((x.1 + 1), μ25)))))
def G4_tellFit_L74  (p1 : Int32)  (Q : Int32 → MM → Prop) (K74 : Int32 × Int32 × MM → Prop) (x : Int32 × Int32 × MM) : Prop :=
  ((1331 ≤ x.2.1 → ((¬ x.1 = (-1) → G7_clear x.2.2 (fun μ21 => Lp (G4_tellFit_L137 p1 x.1 Q) (0, μ21))) ∧ (x.1 = (-1) → Q (-2) x.2.2))) ∧ (¬ (1331 ≤ x.2.1) → ((10 < (((x.2.1 / 121) + ((x.2.1 / 11) - (x.2.1 / 11) / 11 * 11)) + (x.2.1 - x.2.1 / 11 * 11)) → K74 (x.1, (x.2.1 + 1), x.2.2)) ∧ (¬ (10 < (((x.2.1 / 121) + ((x.2.1 / 11) - (x.2.1 / 11) / 11 * 11)) + (x.2.1 - x.2.1 / 11 * 11))) → G4_isLikelier x.2.1 p1 x.2.2 (fun r28 μ27 => ((r28 = 0 → K74 (x.1, (x.2.1 + 1), μ27)) ∧ (¬ (r28 = 0) → K74 (x.2.1, (x.2.1 + 1), μ27))))))))
def G4_tellFit_L28  (p1 : Int32) (p2 : Int32) (K4 : Int32 × Int32 × MM → Prop) (Q : Int32 → MM → Prop) (K28 : Int32 × MM → Prop) (x : Int32 × MM) : Prop :=
  ((4 ≤ x.1 → K4 ((p1 + 1), (p2 + 1), x.2)) ∧ (¬ (4 ≤ x.1) → vp_in p1 24 ∧ G4_likelihood p2 x.1 x.2 (fun r36 μ35 => vp_in x.1 4 ∧ Bd (sJ μ35 (173 + p1.toNatClampNeg) x.1.toNatClampNeg r36) fun μ38 => K28 ((x.1 + 1), μ38))))
def G4_tellFit_L4    (Q : Int32 → MM → Prop) (K4 : Int32 × Int32 × MM → Prop) (x : Int32 × Int32 × MM) : Prop :=
  (((gI x.2.2 1 8) ≤ x.2.1 → Rl (gR x.2.2 168 7) fun r17 => Ob r17 0 ∧ G0_become r17 0 x.2.2 (fun μ18 => Lp (G4_tellFit_L74 x.1 Q) ((-1), 0, μ18))) ∧ (¬ ((gI x.2.2 1 8) ≤ x.2.1) → G10_hasRead x.2.1 x.2.2 (fun r31 μ30 => ((r31 = 0 → K4 (x.1, (x.2.1 + 1), μ30)) ∧ (¬ (r31 = 0) → Lp (G4_tellFit_L28 x.1 x.2.1 K4 Q) (0, μ30))))))
def G4_tellFit  (μ : MM) (Q : Int32 → MM → Prop) : Prop :=
  Lp (G4_tellFit_L4 Q) (0, 0, μ)
def G11_fit  (μ : MM) (Q : Int32 → MM → Prop) : Prop :=
  G4_tellFit μ (fun r4 μ3 => Q r4 μ3)
def G4_fillSums_L2  (p1 : Int32)  (Q : MM → Prop) (K2 : Int32 × MM → Prop) (x : Int32 × MM) : Prop :=
  (((gI x.2 1 8) ≤ x.1 → Q x.2) ∧ (¬ ((gI x.2 1 8) ≤ x.1) → G10_hasRead x.1 x.2 (fun r11 μ10 => ((r11 = 0 → vp_in x.1 24 ∧ Bd (sI μ10 197 x.1.toNatClampNeg (-1)) fun μ14 => K2 ((x.1 + 1), μ14)) ∧ (¬ (r11 = 0) → G4_sumOfLikely x.1 p1 μ10 (fun r16 μ15 => vp_in x.1 24 ∧ Bd (sI μ15 197 x.1.toNatClampNeg r16) fun μ18 => K2 ((x.1 + 1), μ18)))))))
def G4_fillSums (v1 : Int32) (μ : MM) (Q : MM → Prop) : Prop :=
  Lp (G4_fillSums_L2 v1 Q) (0, μ)
def G4_isNamed_J23   (μ : MM)  (Q : Int32 → MM → Prop) : Prop :=
  Q 0 μ
def G4_isNamed (v1 : Int32) (v2 : Int32) (μ : MM) (Q : Int32 → MM → Prop) : Prop :=
  vp_in v1 24 ∧ (((gI μ 197 v1.toNatClampNeg) < 0 → G4_isNamed_J23 μ Q) ∧ (¬ ((gI μ 197 v1.toNatClampNeg) < 0) → vp_in v1 24 ∧ (((gI μ 197 v1.toNatClampNeg) < v2 → G4_isNamed_J23 μ Q) ∧ (¬ ((gI μ 197 v1.toNatClampNeg) < v2) → Q 1 μ))))
def G4_wronglyNamed_L5  (p1 : Int32)  (Q : Int64 → MM → Prop) (K5 : Int64 × Int32 × MM → Prop) (x : Int64 × Int32 × MM) : Prop :=
  (((gI x.2.2 1 8) ≤ x.2.1 → Q x.1 x.2.2) ∧ (¬ ((gI x.2.2 1 8) ≤ x.2.1) → G4_isNamed x.2.1 p1 x.2.2 (fun r8 μ7 => ((r8 = 0 → Bd (x.1 + 0) fun y10 => K5 (y10, (x.2.1 + 1), μ7)) ∧ (¬ (r8 = 0) → vp_in x.2.1 24 ∧ Bd (x.1 + ((1000000 - (gI μ7 197 x.2.1.toNatClampNeg)).toInt64)) fun y12 => K5 (y12, (x.2.1 + 1), μ7))))))
def G4_wronglyNamed (v1 : Int32) (μ : MM) (Q : Int64 → MM → Prop) : Prop :=
  Lp (G4_wronglyNamed_L5 v1 Q) (0, 0, μ)
def G4_tellNamed_L38  (p2 : Int32)  (Q : Int32 → MM → Prop) (K38 : Int32 × Int32 × Int64 × Int32 × MM → Prop) (x : Int32 × Int32 × Int64 × Int32 × MM) : Prop :=
  (((gI x.2.2.2.2 1 8) ≤ x.2.2.2.1 → G7_clear x.2.2.2.2 (fun μ26 => G7_add (x.2.1.toInt64) μ26 (fun μ27 => G4_wronglyNamed p2 μ27 (fun r29 μ28 => G7_add r29 μ28 (fun μ30 => G7_add x.2.2.1 μ30 (fun μ31 => Q x.1 μ31)))))) ∧ (¬ ((gI x.2.2.2.2 1 8) ≤ x.2.2.2.1) → G4_isNamed x.2.2.2.1 p2 x.2.2.2.2 (fun r33 μ32 => ((r33 = 0 → vp_in x.2.2.2.1 24 ∧ (((gI μ32 197 x.2.2.2.1.toNatClampNeg) < 0 → K38 (x.1, x.2.1, x.2.2.1, (x.2.2.2.1 + 1), μ32)) ∧ (¬ ((gI μ32 197 x.2.2.2.1.toNatClampNeg) < 0) → vp_in x.2.2.2.1 24 ∧ Bd (x.2.2.1 + ((gI μ32 197 x.2.2.2.1.toNatClampNeg).toInt64)) fun y38 => K38 (x.1, x.2.1, y38, (x.2.2.2.1 + 1), μ32)))) ∧ (¬ (r33 = 0) → Bd (x.2.1 ||| (1 <<< (x.2.2.2.1 &&& 31))) fun y39 => K38 ((x.1 + 1), y39, x.2.2.1, (x.2.2.2.1 + 1), μ32))))))
def G4_tellNamed (v1 : Int32) (v2 : Int32) (μ : MM) (Q : Int32 → MM → Prop) : Prop :=
  G11_within v1 1 15 μ (fun r19 μ18 => ((r19 = 0 → Q (-1) μ18) ∧ (¬ (r19 = 0) → G11_within v2 0 1000000 μ18 (fun r22 μ21 => ((¬ r22 = 0 → G4_fillSums v1 μ21 (fun μ24 => Lp (G4_tellNamed_L38 v2 Q) (0, 0, 0, 0, μ24))) ∧ (r22 = 0 → Q (-1) μ21))))))
def G11_named (v1 : Int32) (v2 : Int32) (μ : MM) (Q : Int32 → MM → Prop) : Prop :=
  G4_tellNamed v1 v2 μ (fun r4 μ3 => Q r4 μ3)
def G4_leastLine_L29  (p2 : Int32)  (Q : Int32 → MM → Prop) (K29 : Int32 × MM → Prop) (x : Int32 × MM) : Prop :=
  ((1000000 < x.1 → Q (-2) x.2) ∧ (¬ (1000000 < x.1) → G4_wronglyNamed x.1 x.2 (fun r17 μ16 => ((0 < (lg_cmp r17 (p2.toInt64)) → K29 ((x.1 + 1000), μ16)) ∧ (¬ (0 < (lg_cmp r17 (p2.toInt64))) → Q x.1 μ16)))))
def G4_leastLine (v1 : Int32) (v2 : Int32) (μ : MM) (Q : Int32 → MM → Prop) : Prop :=
  G11_within v1 1 15 μ (fun r9 μ8 => ((r9 = 0 → Q (-1) μ8) ∧ (¬ (r9 = 0) → G11_within v2 0 24000000 μ8 (fun r12 μ11 => ((¬ r12 = 0 → G4_fillSums v1 μ11 (fun μ14 => Lp (G4_leastLine_L29 v2 Q) (0, μ14))) ∧ (r12 = 0 → Q (-1) μ11))))))
def G11_sure (v1 : Int32) (v2 : Int32) (μ : MM) (Q : Int32 → MM → Prop) : Prop :=
  G4_leastLine v1 v2 μ (fun r4 μ3 => Q r4 μ3)
def G4_fewerIn (v1 : Int32) (μ : MM) (Q : Int32 → MM → Prop) : Prop :=
  G4_rungIn v1 0 μ (fun r7 μ6 => G4_rungIn v1 1 μ6 (fun r9 μ8 => Bd (r7 - r9) fun y10 => ((y10 ≤ 0 → Q 0 μ8) ∧ (¬ (y10 ≤ 0) → Q y10 μ8))))
def G4_tellMost_L72  (p1 : Int32) (p2 : Int32) (p5 : Int32) (K64 : Int32 × Int32 × Int32 × MM → Prop) (Q : Int32 → MM → Prop) (K72 : Int32 × Int32 × Int32 × MM → Prop) (x : Int32 × Int32 × Int32 × MM) : Prop :=
  (((gI x.2.2.2 1 8) ≤ x.2.2.1 → K64 (x.1, x.2.1, (p5 + (-1)), x.2.2.2)) ∧ (¬ ((gI x.2.2.2 1 8) ≤ x.2.2.1) → (((x.2.1 * 2) ≤ p2 → K64 (x.1, x.2.1, (p5 + (-1)), x.2.2.2)) ∧ (¬ ((x.2.1 * 2) ≤ p2) → vp_in x.2.2.1 24 ∧ ((¬ (gI x.2.2.2 197 x.2.2.1.toNatClampNeg) = p5 → K72 (x.1, x.2.1, (x.2.2.1 + 1), x.2.2.2)) ∧ ((gI x.2.2.2 197 x.2.2.1.toNatClampNeg) = p5 → Bd (x.2.1 - p5) fun y22 => K72 ((x.1 + 1), y22, (x.2.2.1 + 1), x.2.2.2)))))))
def G4_tellMost_L64  (p1 : Int32) (p2 : Int32)  (Q : Int32 → MM → Prop) (K64 : Int32 × Int32 × Int32 × MM → Prop) (x : Int32 × Int32 × Int32 × MM) : Prop :=
  ((x.2.2.1 ≤ 0 → G7_clear x.2.2.2 (fun μ15 => G7_add (p1.toInt64) μ15 (fun μ16 => G7_add (p2.toInt64) μ16 (fun μ17 => Q x.1 μ17)))) ∧ (¬ (x.2.2.1 ≤ 0) → Lp (G4_tellMost_L72 p1 p2 x.2.2.1 K64 Q) (x.1, x.2.1, 0, x.2.2.2)))
def G4_tellMost_L6    (Q : Int32 → MM → Prop) (K6 : Int32 × Int32 × Int32 × MM → Prop) (x : Int32 × Int32 × Int32 × MM) : Prop :=
  (((gI x.2.2.2 1 8) ≤ x.2.2.1 → Lp (G4_tellMost_L64 x.1 x.2.1 Q) (0, x.2.1, 4, x.2.2.2)) ∧ (¬ ((gI x.2.2.2 1 8) ≤ x.2.2.1) → G4_fewerIn x.2.2.1 x.2.2.2 (fun r24 μ23 => vp_in x.2.2.1 24 ∧ Bd (sI μ23 197 x.2.2.1.toNatClampNeg r24) fun μ26 => Bd (x.2.1 + r24) fun y27 => ((r24 ≤ 0 → Bd (x.1 + 0) fun y29 => K6 (y29, y27, (x.2.2.1 + 1), μ26)) ∧ (¬ (r24 ≤ 0) → Bd (x.1 + 1) fun y30 => K6 (y30, y27, (x.2.2.1 + 1), μ26))))))
def G4_tellMost  (μ : MM) (Q : Int32 → MM → Prop) : Prop :=
  Lp (G4_tellMost_L6 Q) (0, 0, 0, μ)
def G11_most  (μ : MM) (Q : Int32 → MM → Prop) : Prop :=
  G4_tellMost μ (fun r4 μ3 => Q r4 μ3)
def G2_gatherWorth_L7 (a1 : Nat) (p2 : Int32) (p3 : Int32)  (Q : MM → Prop) (K7 : Int32 × MM → Prop) (x : Int32 × MM) : Prop :=
  (((gI x.2 1 10) ≤ x.1 → Q x.2) ∧ (¬ ((gI x.2 1 10) ≤ x.1) → vp_in x.1 96 ∧ (((gI x.2 (19 + x.1.toNatClampNeg) 6) = 0 → K7 ((x.1 + 1), x.2)) ∧ (¬ ((gI x.2 (19 + x.1.toNatClampNeg) 6) = 0) → G11_within (gI x.2 (19 + x.1.toNatClampNeg) 2) p2 p3 x.2 (fun r13 μ12 => ((r13 = 0 → K7 ((x.1 + 1), μ12)) ∧ (¬ (r13 = 0) → G10_peopleOf (19 + x.1.toNatClampNeg) μ12 (fun r16 μ15 => G9_note a1 r16 (gI μ15 (19 + x.1.toNatClampNeg) 7) μ15 (fun μ17 => K7 ((x.1 + 1), μ17))))))))))
def G2_gatherWorth (a1 : Nat) (v2 : Int32) (v3 : Int32) (μ : MM) (Q : MM → Prop) : Prop :=
  G9_clear a1 μ (fun μ8 => Lp (G2_gatherWorth_L7 a1 v2 v3 Q) (0, μ8))
def G2_tellBoth_L70    (Q : Int32 → MM → Prop) (K70 : Int32 × MM → Prop) (x : Int32 × MM) : Prop :=
  ((2 ≤ x.1 → G9_asideUpper 207 x.2 (fun r46 μ45 => G9_asideLower 210 μ45 (fun r48 μ47 => G9_asideUpper 210 μ47 (fun r50 μ49 => G9_asideLower 207 μ49 (fun r52 μ51 => Bd ((r46 * r48) - (r50 * r52)) fun y53 => G9_asideLower 207 μ51 (fun r55 μ54 => G9_asideLower 210 μ54 (fun r57 μ56 => G7_addFraction y53 (r55 * r57) μ56 (fun μ58 => (((lg_cmp y53 0) ≤ 0 → ((0 ≤ (lg_cmp y53 0) → Q 0 μ58) ∧ (¬ (0 ≤ (lg_cmp y53 0)) → Q 2 μ58))) ∧ (¬ ((lg_cmp y53 0) ≤ 0) → Q 1 μ58)))))))))) ∧ (¬ (2 ≤ x.1) → vp_in x.1 2 ∧ G7_add ((gI x.2 209 x.1.toNatClampNeg).toInt64) x.2 (fun μ62 => vp_in x.1 2 ∧ G7_add ((gI μ62 208 x.1.toNatClampNeg).toInt64) μ62 (fun μ64 => vp_in x.1 2 ∧ G7_add ((gI μ64 212 x.1.toNatClampNeg).toInt64) μ64 (fun μ66 => vp_in x.1 2 ∧ G7_add ((gI μ66 211 x.1.toNatClampNeg).toInt64) μ66 (fun μ68 => K70 ((x.1 + 1), μ68)))))))
def G2_tellBoth (v1 : Int32) (μ : MM) (Q : Int32 → MM → Prop) : Prop :=
  G11_within v1 1 99 μ (fun r33 μ32 => ((¬ r33 = 0 → G2_gatherWorth 207 v1 99 μ32 (fun μ35 => G2_gatherWorth 210 0 (v1 - 1) μ35 (fun μ36 => G9_hasBoth 207 μ36 (fun r38 μ37 => ((r38 = 0 → Q (-2) μ37) ∧ (¬ (r38 = 0) → G9_hasBoth 210 μ37 (fun r41 μ40 => ((¬ r41 = 0 → G7_clear μ40 (fun μ43 => Lp (G2_tellBoth_L70 Q) (0, μ43))) ∧ (r41 = 0 → Q (-2) μ40))))))))) ∧ (r33 = 0 → Q (-1) μ32)))
def G11_both (v1 : Int32) (μ : MM) (Q : Int32 → MM → Prop) : Prop :=
  G2_tellBoth v1 μ (fun r4 μ3 => Q r4 μ3)
def G2_valueOf (a1 : Nat) (v2 : Int32) (μ : MM) (Q : Int32 → MM → Prop) : Prop :=
  ((v2 = 0 → Q (gI μ a1 4) μ) ∧ (v2 = 1 → vp_in (gI μ a1 0) 24 ∧ Q (gI μ 6 ((gI μ a1 0).toNatClampNeg)) μ) ∧ (v2 = 2 → vp_in (gI μ a1 0) 24 ∧ Q (gI μ 7 ((gI μ a1 0).toNatClampNeg)) μ) ∧ (¬ v2 = 0 → ¬ v2 = 1 → ¬ v2 = 2 → Q (gI μ a1 3) μ))
def G2_gatherBy_L32  (p1 : Int32)  (Q : MM → Prop) (K32 : Int32 × MM → Prop) (x : Int32 × MM) : Prop :=
  (((gI x.2 1 10) ≤ x.1 → Q x.2) ∧ (¬ ((gI x.2 1 10) ≤ x.1) → vp_in x.1 96 ∧ (((gI x.2 (19 + x.1.toNatClampNeg) 6) = 0 → K32 ((x.1 + 1), x.2)) ∧ (¬ ((gI x.2 (19 + x.1.toNatClampNeg) 6) = 0) → G10_peopleOf (19 + x.1.toNatClampNeg) x.2 (fun r20 μ19 => G9_note 203 r20 (gI μ19 (19 + x.1.toNatClampNeg) 7) μ19 (fun μ21 => G2_valueOf (19 + x.1.toNatClampNeg) p1 μ21 (fun r23 μ22 => vp_in r23 10 ∧ G10_peopleOf (19 + x.1.toNatClampNeg) μ22 (fun r26 μ25 => G9_note (207 + 3 * r23.toNatClampNeg) r26 (gI μ25 (19 + x.1.toNatClampNeg) 7) μ25 (fun μ27 => K32 ((x.1 + 1), μ27))))))))))
def G2_gatherBy_L9  (p1 : Int32)  (Q : MM → Prop) (K9 : Int32 × MM → Prop) (x : Int32 × MM) : Prop :=
  ((10 ≤ x.1 → Lp (G2_gatherBy_L32 p1 Q) (0, x.2)) ∧ (¬ (10 ≤ x.1) → vp_in x.1 10 ∧ G9_clear (207 + 3 * x.1.toNatClampNeg) x.2 (fun μ29 => K9 ((x.1 + 1), μ29))))
def G2_gatherBy (v1 : Int32) (μ : MM) (Q : MM → Prop) : Prop :=
  G9_clear 203 μ (fun μ14 => Lp (G2_gatherBy_L9 v1 Q) (0, μ14))
def G9_asideTimes (t : Nat) (v1 : Int64) (μ : MM) (Q : Int64 → MM → Prop) : Prop :=
  G9_hasBoth t μ (fun r6 μ5 => ((r6 = 0 → Q 0 μ5) ∧ (¬ (r6 = 0) → ¬ ((gI μ5 (t + 1) 0).toInt64) = 0 ∧ ¬ ((gI μ5 (t + 1) 1).toInt64) = 0 ∧ Q ((((gI μ5 (t + 2) 0).toInt64) * (v1 / ((gI μ5 (t + 1) 0).toInt64))) - (((gI μ5 (t + 2) 1).toInt64) * (v1 / ((gI μ5 (t + 1) 1).toInt64)))) μ5)))
def G2_tellExplained_L115  (p2 : Int64) (p4 : Int32)  (Q : Int32 → MM → Prop) (K115 : Int64 × Int32 × MM → Prop) (x : Int64 × Int32 × MM) : Prop :=
  ((10 ≤ x.2.1 → Bd (p2 * (p4.toInt64)) fun y41 => G7_clear x.2.2 (fun μ42 => G7_addFraction x.1 y41 μ42 (fun μ43 => G9_asideUpper 203 μ43 (fun r45 μ44 => G9_asideLower 203 μ44 (fun r47 μ46 => G9_asideLower 203 μ46 (fun r49 μ48 => G7_addFraction ((r45 * y41) - (x.1 * r47)) (r49 * y41) μ48 (fun μ50 => Q 0 μ50))))))) ∧ (¬ (10 ≤ x.2.1) → vp_in x.2.1 10 ∧ G9_asideTimes (207 + 3 * x.2.1.toNatClampNeg) p2 x.2.2 (fun r53 μ52 => vp_in x.2.1 10 ∧ G9_all (207 + 3 * x.2.1.toNatClampNeg) μ52 (fun r56 μ55 => Bd (x.1 + (r53 * (r56.toInt64))) fun y57 => K115 (y57, (x.2.1 + 1), μ55)))))
def G2_tellExplained_L24    (Q : Int32 → MM → Prop) (K24 : Int64 × Int32 × Int32 × MM → Prop) (x : Int64 × Int32 × Int32 × MM) : Prop :=
  ((10 ≤ x.2.2.1 → ((¬ x.2.1 = 0 → Lp (G2_tellExplained_L115 x.1 x.2.1 Q) (0, 0, x.2.2.2)) ∧ (x.2.1 = 0 → Q (-2) x.2.2.2))) ∧ (¬ (10 ≤ x.2.2.1) → vp_in x.2.2.1 10 ∧ G9_hasBoth (207 + 3 * x.2.2.1.toNatClampNeg) x.2.2.2 (fun r60 μ59 => ((r60 = 0 → K24 (x.1, x.2.1, (x.2.2.1 + 1), μ59)) ∧ (¬ (r60 = 0) → vp_in x.2.2.1 10 ∧ G11_leastMultiple x.1 ((gI μ59 ((207 + 3 * x.2.2.1.toNatClampNeg) + 1) 0).toInt64) μ59 (fun r64 μ63 => vp_in x.2.2.1 10 ∧ G11_leastMultiple r64 ((gI μ63 ((207 + 3 * x.2.2.1.toNatClampNeg) + 1) 1).toInt64) μ63 (fun r67 μ66 => vp_in x.2.2.1 10 ∧ G9_all (207 + 3 * x.2.2.1.toNatClampNeg) μ66 (fun r70 μ69 => Bd (x.2.1 + r70) fun y71 => K24 (r67, y71, (x.2.2.1 + 1), μ69)))))))))
def G2_tellExplained (v1 : Int32) (μ : MM) (Q : Int32 → MM → Prop) : Prop :=
  G11_within v1 0 3 μ (fun r35 μ34 => ((¬ r35 = 0 → G2_gatherBy v1 μ34 (fun μ37 => Lp (G2_tellExplained_L24 Q) (1, 0, 0, μ37))) ∧ (r35 = 0 → Q (-1) μ34)))
def G11_explains (v1 : Int32) (μ : MM) (Q : Int32 → MM → Prop) : Prop :=
  G2_tellExplained v1 μ (fun r4 μ3 => Q r4 μ3)
def G2_tellJoined_J125  (p2 : Int64) (p4 : Int64) (p6 : Int64) (p8 : Int32) (p9 : Nat) (q0 : Int64) (μ : MM) (K89 : Int64 × Int64 × Int32 × MM → Prop) (Q : Int32 → MM → Prop) : Prop :=
  Bd (p4 + ((q0 * ((gI μ (p9 + 2) 0).toInt64)) * (((gI μ (p9 + 1) 1) - (gI μ (p9 + 2) 1)).toInt64))) fun y34 => Bd (p6 + ((q0 * (((gI μ (p9 + 1) 0) - (gI μ (p9 + 2) 0)).toInt64)) * ((gI μ (p9 + 2) 1).toInt64))) fun y35 => K89 (y34, y35, (p8 + 1), μ)
def G2_tellJoined_L89  (p2 : Int64)  (Q : Int32 → MM → Prop) (K89 : Int64 × Int64 × Int32 × MM → Prop) (x : Int64 × Int64 × Int32 × MM) : Prop :=
  ((10 ≤ x.2.2.1 → ((¬ (lg_cmp x.2.1 0) = 0 → G7_clear x.2.2.2 (fun μ28 => G7_addFraction x.1 x.2.1 μ28 (fun μ29 => Q 0 μ29))) ∧ ((lg_cmp x.2.1 0) = 0 → Q (-2) x.2.2.2))) ∧ (¬ (10 ≤ x.2.2.1) → vp_in x.2.2.1 10 ∧ G9_all (207 + 3 * x.2.2.1.toNatClampNeg) x.2.2.2 (fun r32 μ31 => ((r32 ≤ 0 → G2_tellJoined_J125 p2 x.1 x.2.1 x.2.2.1 (207 + 3 * x.2.2.1.toNatClampNeg) 0 μ31 K89 Q) ∧ (¬ (r32 ≤ 0) → G9_all (207 + 3 * x.2.2.1.toNatClampNeg) μ31 (fun r37 μ36 => ¬ (r37.toInt64) = 0 ∧ G2_tellJoined_J125 p2 x.1 x.2.1 x.2.2.1 (207 + 3 * x.2.2.1.toNatClampNeg) (p2 / (r37.toInt64)) μ36 K89 Q))))))
def G2_tellJoined_L38    (Q : Int32 → MM → Prop) (K38 : Int64 × Int32 × MM → Prop) (x : Int64 × Int32 × MM) : Prop :=
  ((10 ≤ x.2.1 → Lp (G2_tellJoined_L89 x.1 Q) (0, 0, 0, x.2.2)) ∧ (¬ (10 ≤ x.2.1) → vp_in x.2.1 10 ∧ G9_all (207 + 3 * x.2.1.toNatClampNeg) x.2.2 (fun r41 μ40 => ((r41 ≤ 0 → K38 (x.1, (x.2.1 + 1), μ40)) ∧ (¬ (r41 ≤ 0) → G11_leastMultiple x.1 (r41.toInt64) μ40 (fun r44 μ43 => K38 (r44, (x.2.1 + 1), μ43)))))))
def G2_tellJoined_J30  (q0 : Int32) (μ : MM)  (Q : Int32 → MM → Prop) : Prop :=
  G2_gatherBy q0 μ (fun μ24 => Lp (G2_tellJoined_L38 Q) (1, 0, μ24))
def G2_tellJoined (v1 : Int32) (μ : MM) (Q : Int32 → MM → Prop) : Prop :=
  G11_within v1 0 2 μ (fun r20 μ19 => ((¬ r20 = 0 → ((¬ v1 = 0 → ((¬ v1 = 1 → G2_tellJoined_J30 0 μ19 Q) ∧ (v1 = 1 → G2_tellJoined_J30 2 μ19 Q))) ∧ (v1 = 0 → G2_tellJoined_J30 1 μ19 Q))) ∧ (r20 = 0 → Q (-1) μ19)))
def G11_join (v1 : Int32) (μ : MM) (Q : Int32 → MM → Prop) : Prop :=
  G2_tellJoined v1 μ (fun r4 μ3 => Q r4 μ3)
def G2_tellBounds_J117  (p1 : Int32) (p2 : Int32) (p3 : Int32) (p5 : Int32) (q0 : Int32) (q1 : Int32) (μ : MM) (K21 : Int32 × Int32 × Int32 × Int32 × MM → Prop) (Q : Int32 → MM → Prop) : Prop :=
  Bd (q1 + q0) fun y27 => K21 (p2, p3, y27, (p5 + 1), μ)
def G2_tellBounds_J116  (p1 : Int32) (p2 : Int32) (p3 : Int32) (p5 : Int32) (q0 : Int32) (μ : MM) (K21 : Int32 × Int32 × Int32 × Int32 × MM → Prop) (Q : Int32 → MM → Prop) : Prop :=
  G2_tellBounds_J117 p1 p2 p3 p5 0 q0 μ K21 Q
def G2_tellBounds_J92  (p1 : Int32) (p2 : Int32) (p4 : Int32) (p5 : Int32) (p6 : Nat) (q0 : Int32) (q1 : Int32) (μ : MM) (K21 : Int32 × Int32 × Int32 × Int32 × MM → Prop) (Q : Int32 → MM → Prop) : Prop :=
  Bd (q1 + q0) fun y25 => (((gI μ p6 7) = 0 → G2_tellBounds_J116 p1 p2 y25 p5 p4 μ K21 Q) ∧ (¬ ((gI μ p6 7) = 0) → ((¬ (gI μ p6 8) = 0 → G2_tellBounds_J116 p1 p2 y25 p5 p4 μ K21 Q) ∧ ((gI μ p6 8) = 0 → G2_tellBounds_J117 p1 p2 y25 p5 1 p4 μ K21 Q))))
def G2_tellBounds_J91  (p1 : Int32) (p2 : Int32) (p4 : Int32) (p5 : Int32) (p6 : Nat) (q0 : Int32) (μ : MM) (K21 : Int32 × Int32 × Int32 × Int32 × MM → Prop) (Q : Int32 → MM → Prop) : Prop :=
  G2_tellBounds_J92 p1 p2 p4 p5 p6 0 q0 μ K21 Q
def G2_tellBounds_L21  (p1 : Int32)  (Q : Int32 → MM → Prop) (K21 : Int32 × Int32 × Int32 × Int32 × MM → Prop) (x : Int32 × Int32 × Int32 × Int32 × MM) : Prop :=
  (((gI x.2.2.2.2 1 10) ≤ x.2.2.2.1 → ((¬ x.1 = 0 → G7_clear x.2.2.2.2 (fun μ16 => G7_addFraction (x.2.1.toInt64) (x.1.toInt64) μ16 (fun μ17 => G7_addFraction ((x.2.1 + x.2.2.1).toInt64) (x.1.toInt64) μ17 (fun μ18 => Q x.2.2.1 μ18)))) ∧ (x.1 = 0 → Q (-2) x.2.2.2.2))) ∧ (¬ ((gI x.2.2.2.2 1 10) ≤ x.2.2.2.1) → vp_in x.2.2.2.1 96 ∧ (((gI x.2.2.2.2 (19 + x.2.2.2.1.toNatClampNeg) 6) = 0 → K21 (x.1, x.2.1, x.2.2.1, (x.2.2.2.1 + 1), x.2.2.2.2)) ∧ (¬ ((gI x.2.2.2.2 (19 + x.2.2.2.1.toNatClampNeg) 6) = 0) → G10_peopleOf (19 + x.2.2.2.1.toNatClampNeg) x.2.2.2.2 (fun r22 μ21 => ((¬ r22 = p1 → K21 (x.1, x.2.1, x.2.2.1, (x.2.2.2.1 + 1), μ21)) ∧ (r22 = p1 → (((gI μ21 (19 + x.2.2.2.1.toNatClampNeg) 7) = 0 → G2_tellBounds_J91 p1 (x.1 + 1) x.2.2.1 x.2.2.2.1 (19 + x.2.2.2.1.toNatClampNeg) x.2.1 μ21 K21 Q) ∧ (¬ ((gI μ21 (19 + x.2.2.2.1.toNatClampNeg) 7) = 0) → ((¬ (gI μ21 (19 + x.2.2.2.1.toNatClampNeg) 8) = 1 → G2_tellBounds_J91 p1 (x.1 + 1) x.2.2.1 x.2.2.2.1 (19 + x.2.2.2.1.toNatClampNeg) x.2.1 μ21 K21 Q) ∧ ((gI μ21 (19 + x.2.2.2.1.toNatClampNeg) 8) = 1 → G2_tellBounds_J92 p1 (x.1 + 1) x.2.2.1 x.2.2.2.1 (19 + x.2.2.2.1.toNatClampNeg) 1 x.2.1 μ21 K21 Q)))))))))))
def G2_tellBounds (v1 : Int32) (μ : MM) (Q : Int32 → MM → Prop) : Prop :=
  G11_within v1 0 1 μ (fun r12 μ11 => ((¬ r12 = 0 → Lp (G2_tellBounds_L21 v1 Q) (0, 0, 0, 0, μ11)) ∧ (r12 = 0 → Q (-1) μ11)))
def G11_bounds (v1 : Int32) (μ : MM) (Q : Int32 → MM → Prop) : Prop :=
  G2_tellBounds v1 μ (fun r4 μ3 => Q r4 μ3)
def G2_tellYears_L32  (p1 : Int32)  (Q : Int32 → MM → Prop) (K32 : Int32 × MM → Prop) (x : Int32 × MM) : Prop :=
  ((99 < (p1 + x.1) → Q (-2) x.2) ∧ (¬ (99 < (p1 + x.1)) → (((gI x.2 204 0) ≤ 0 → Q (-2) x.2) ∧ (¬ ((gI x.2 204 0) ≤ 0) → G2_gatherWorth 207 (p1 + x.1) 99 x.2 (fun μ13 => (((gI μ13 208 1) ≤ 0 → K32 ((x.1 + 1), μ13)) ∧ (¬ ((gI μ13 208 1) ≤ 0) → ((((gI μ13 209 1) * (gI μ13 204 0)) < ((gI μ13 205 0) * (gI μ13 208 1)) → K32 ((x.1 + 1), μ13)) ∧ (¬ (((gI μ13 209 1) * (gI μ13 204 0)) < ((gI μ13 205 0) * (gI μ13 208 1))) → G7_clear μ13 (fun μ16 => G7_addFraction ((gI μ16 209 1).toInt64) ((gI μ16 208 1).toInt64) μ16 (fun μ17 => Q x.1 μ17)))))))))))
def G2_tellYears (v1 : Int32) (μ : MM) (Q : Int32 → MM → Prop) : Prop :=
  G11_within v1 0 99 μ (fun r8 μ7 => ((¬ r8 = 0 → G2_gatherWorth 203 v1 99 μ7 (fun μ10 => Lp (G2_tellYears_L32 v1 Q) (0, μ10))) ∧ (r8 = 0 → Q (-1) μ7)))
def G11_years (v1 : Int32) (μ : MM) (Q : Int32 → MM → Prop) : Prop :=
  G2_tellYears v1 μ (fun r4 μ3 => Q r4 μ3)
def G2_tellMornings_J178  (p1 : Int32) (p2 : Int32) (p3 : Int32) (p4 : Int32) (p7 : Int32) (p8 : Int32) (μ : MM) (K45 : Int32 × Int32 × Int32 × Int32 × MM → Prop) (Q : Int32 → MM → Prop) : Prop :=
  K45 (p4, p7, p8, (p7 + 1), μ)
def G2_tellMornings_J149  (p1 : Int32) (p2 : Int32) (p3 : Int32) (p4 : Int32) (p5 : Int32) (p6 : Int32) (p7 : Int32) (p9 : Int32) (q0 : Int32) (q1 : Int32) (μ : MM) (K45 : Int32 × Int32 × Int32 × Int32 × MM → Prop) (K63 : Int32 × Int32 × MM → Prop) (Q : Int32 → MM → Prop) : Prop :=
  Bd (q1 + q0) fun y37 => K63 (y37, (p9 + 1), μ)
def G2_tellMornings_J148  (p1 : Int32) (p2 : Int32) (p3 : Int32) (p4 : Int32) (p5 : Int32) (p6 : Int32) (p7 : Int32) (p9 : Int32) (q0 : Int32) (μ : MM) (K45 : Int32 × Int32 × Int32 × Int32 × MM → Prop) (K63 : Int32 × Int32 × MM → Prop) (Q : Int32 → MM → Prop) : Prop :=
  G2_tellMornings_J149 p1 p2 p3 p4 p5 p6 p7 p9 0 q0 μ K45 K63 Q
def G2_tellMornings_J121  (p1 : Int32) (p2 : Int32) (p3 : Int32) (p4 : Int32) (p5 : Int32) (p6 : Int32) (p7 : Int32) (p9 : Int32) (p10 : Nat) (q0 : Int32) (q1 : Int32) (q2 : Int32) (μ : MM) (K45 : Int32 × Int32 × Int32 × Int32 × MM → Prop) (K63 : Int32 × Int32 × MM → Prop) (Q : Int32 → MM → Prop) : Prop :=
  Bd (q2 + (q1 + q0)) fun y35 => (((gI μ p10 7) = 0 → G2_tellMornings_J148 p1 p2 p3 p4 p5 p6 p7 p9 y35 μ K45 K63 Q) ∧ (¬ ((gI μ p10 7) = 0) → ((¬ (gI μ p10 8) = 2 → G2_tellMornings_J148 p1 p2 p3 p4 p5 p6 p7 p9 y35 μ K45 K63 Q) ∧ ((gI μ p10 8) = 2 → G2_tellMornings_J149 p1 p2 p3 p4 p5 p6 p7 p9 p3 y35 μ K45 K63 Q))))
def G2_tellMornings_L63  (p1 : Int32) (p2 : Int32) (p3 : Int32) (p4 : Int32) (p5 : Int32) (p6 : Int32) (p7 : Int32) (K45 : Int32 × Int32 × Int32 × Int32 × MM → Prop) (Q : Int32 → MM → Prop) (K63 : Int32 × Int32 × MM → Prop) (x : Int32 × Int32 × MM) : Prop :=
  (((gI x.2.2 1 10) ≤ x.2.1 → Bd (p4 + x.1) fun y28 => ((p5 = (-1) → G2_tellMornings_J178 p1 p2 p3 y28 p7 x.1 x.2.2 K45 Q) ∧ (¬ (p5 = (-1)) → ((x.1 ≤ p6 → K45 (y28, p5, p6, (p7 + 1), x.2.2)) ∧ (¬ (x.1 ≤ p6) → G2_tellMornings_J178 p1 p2 p3 y28 p7 x.1 x.2.2 K45 Q))))) ∧ (¬ ((gI x.2.2 1 10) ≤ x.2.1) → vp_in x.2.1 96 ∧ ((¬ (gI x.2.2 (19 + x.2.1.toNatClampNeg) 0) = p7 → K63 (x.1, (x.2.1 + 1), x.2.2)) ∧ ((gI x.2.2 (19 + x.2.1.toNatClampNeg) 0) = p7 → (((gI x.2.2 (19 + x.2.1.toNatClampNeg) 6) = 0 → K63 (x.1, (x.2.1 + 1), x.2.2)) ∧ (¬ ((gI x.2.2 (19 + x.2.1.toNatClampNeg) 6) = 0) → (((gI x.2.2 (19 + x.2.1.toNatClampNeg) 7) = 0 → G2_tellMornings_J121 p1 p2 p3 p4 p5 p6 p7 x.2.1 (19 + x.2.1.toNatClampNeg) 0 p1 x.1 x.2.2 K45 K63 Q) ∧ (¬ ((gI x.2.2 (19 + x.2.1.toNatClampNeg) 7) = 0) → G2_tellMornings_J121 p1 p2 p3 p4 p5 p6 p7 x.2.1 (19 + x.2.1.toNatClampNeg) p2 p1 x.1 x.2.2 K45 K63 Q))))))))
def G2_tellMornings_L45  (p1 : Int32) (p2 : Int32) (p3 : Int32)  (Q : Int32 → MM → Prop) (K45 : Int32 × Int32 × Int32 × Int32 × MM → Prop) (x : Int32 × Int32 × Int32 × Int32 × MM) : Prop :=
  (((gI x.2.2.2.2 1 8) ≤ x.2.2.2.1 → G7_clear x.2.2.2.2 (fun μ24 => G7_add (x.2.1.toInt64) μ24 (fun μ25 => G7_add (x.2.2.1.toInt64) μ25 (fun μ26 => Q x.1 μ26)))) ∧ (¬ ((gI x.2.2.2.2 1 8) ≤ x.2.2.2.1) → Lp (G2_tellMornings_L63 p1 p2 p3 x.1 x.2.1 x.2.2.1 x.2.2.2.1 K45 Q) (0, 0, x.2.2.2.2)))
def G2_tellMornings (v1 : Int32) (v2 : Int32) (v3 : Int32) (μ : MM) (Q : Int32 → MM → Prop) : Prop :=
  G11_within v1 0 99 μ (fun r15 μ14 => ((r15 = 0 → Q (-1) μ14) ∧ (¬ (r15 = 0) → G11_within v2 0 99 μ14 (fun r18 μ17 => ((r18 = 0 → Q (-1) μ17) ∧ (¬ (r18 = 0) → G11_within v3 0 999 μ17 (fun r21 μ20 => ((¬ r21 = 0 → Lp (G2_tellMornings_L45 v1 v2 v3 Q) (0, (-1), 0, 0, μ20)) ∧ (r21 = 0 → Q (-1) μ20)))))))))
def G11_mornings (v1 : Int32) (v2 : Int32) (v3 : Int32) (μ : MM) (Q : Int32 → MM → Prop) : Prop :=
  G2_tellMornings v1 v2 v3 μ (fun r4 μ3 => Q r4 μ3)
def G6_noteAsking_J41  (p1 : Int32) (p2 : Int32) (p3 : Int32) (q0 : Int32) (μ : MM)  (Q : Int32 → MM → Prop) : Prop :=
  ((q0 = 0 → Q (-1) μ) ∧ (¬ (q0 = 0) → ((¬ (gI μ 237 5) = 40 → vp_in (gI μ 237 5) 40 ∧ Bd (sI μ 238 ((gI μ 237 5).toNatClampNeg) p1) fun μ20 => vp_in (gI μ20 237 5) 40 ∧ Bd (sI μ20 239 ((gI μ20 237 5).toNatClampNeg) p2) fun μ22 => vp_in (gI μ22 237 5) 40 ∧ Bd (sI μ22 240 ((gI μ22 237 5).toNatClampNeg) p3) fun μ24 => Bd (sI μ24 237 5 ((gI μ24 237 5) + 1)) fun μ25 => Q (gI μ25 237 5) μ25) ∧ ((gI μ 237 5) = 40 → Q (-1) μ))))
def G6_noteAsking_J40  (p1 : Int32) (p2 : Int32) (p3 : Int32) (μ : MM)  (Q : Int32 → MM → Prop) : Prop :=
  G6_noteAsking_J41 p1 p2 p3 0 μ Q
def G6_noteAsking (v1 : Int32) (v2 : Int32) (v3 : Int32) (μ : MM) (Q : Int32 → MM → Prop) : Prop :=
  G10_isLetter v1 μ (fun r15 μ14 => ((r15 = 0 → G6_noteAsking_J40 v1 v2 v3 μ14 Q) ∧ (¬ (r15 = 0) → G10_isLetter v2 μ14 (fun r27 μ26 => ((r27 = 0 → G6_noteAsking_J40 v1 v2 v3 μ26 Q) ∧ (¬ (r27 = 0) → ((v1 = v2 → G6_noteAsking_J40 v1 v2 v3 μ26 Q) ∧ (¬ (v1 = v2) → G11_within v3 0 2 μ26 (fun r31 μ30 => ((r31 = 0 → G6_noteAsking_J40 v1 v2 v3 μ30 Q) ∧ (¬ (r31 = 0) → G6_noteAsking_J41 v1 v2 v3 1 μ30 Q)))))))))))
def G11_asked (v1 : Int32) (v2 : Int32) (v3 : Int32) (μ : MM) (Q : Int32 → MM → Prop) : Prop :=
  G6_noteAsking v1 v2 v3 μ (fun r4 μ3 => Q r4 μ3)
def G6_goesAgainst (v1 : Int32) (v2 : Int32) (v3 : Int32) (v4 : Int32) (μ : MM) (Q : Int32 → MM → Prop) : Prop :=
  vp_in v1 6 ∧ vp_in v2 96 ∧ vp_in v1 6 ∧ vp_in v3 96 ∧ GJ6_compare_7cf53 (gI μ (242 + v1.toNatClampNeg) v2.toNatClampNeg) (gI μ (242 + v1.toNatClampNeg) v3.toNatClampNeg) μ (fun r12 μ11 => ((v4 = 1 → ((0 ≤ r12 → Q 0 μ11) ∧ (¬ (0 ≤ r12) → Q 1 μ11))) ∧ (v4 = 2 → ((r12 ≤ 0 → Q 0 μ11) ∧ (¬ (r12 ≤ 0) → Q 1 μ11))) ∧ (¬ v4 = 1 → ¬ v4 = 2 → ((r12 = 0 → Q 0 μ11) ∧ (¬ (r12 = 0) → Q 1 μ11)))))
def G6_weigh_L108  (p1 : Int32) (K93 : Int32 × MM → Prop) (Q : MM → Prop) (K108 : Int32 × MM → Prop) (x : Int32 × MM) : Prop :=
  (((gI x.2 237 5) ≤ x.1 → K93 ((p1 + 1), x.2)) ∧ (¬ ((gI x.2 237 5) ≤ x.1) → vp_in p1 6 ∧ vp_in x.1 40 ∧ vp_in x.1 40 ∧ vp_in x.1 40 ∧ G6_goesAgainst p1 (gI x.2 238 x.1.toNatClampNeg) (gI x.2 239 x.1.toNatClampNeg) (gI x.2 240 x.1.toNatClampNeg) x.2 (fun r35 μ34 => ((r35 = 0 → vp_in p1 6 ∧ Bd (sI μ34 248 p1.toNatClampNeg ((gI x.2 248 p1.toNatClampNeg) + 0)) fun μ38 => K108 ((x.1 + 1), μ38)) ∧ (¬ (r35 = 0) → vp_in p1 6 ∧ Bd (sI μ34 248 p1.toNatClampNeg ((gI x.2 248 p1.toNatClampNeg) + 1)) fun μ40 => K108 ((x.1 + 1), μ40))))))
def G6_weigh_L93    (Q : MM → Prop) (K93 : Int32 × MM → Prop) (x : Int32 × MM) : Prop :=
  ((6 ≤ x.1 → Q x.2) ∧ (¬ (6 ≤ x.1) → vp_in x.1 6 ∧ Bd (sI x.2 248 x.1.toNatClampNeg 0) fun μ28 => Lp (G6_weigh_L108 x.1 K93 Q) (0, μ28)))
def G6_weigh_L31  (p1 : Int32) (K2 : Int32 × MM → Prop) (Q : MM → Prop) (K31 : Int32 × MM → Prop) (x : Int32 × MM) : Prop :=
  ((6 ≤ x.1 → K2 ((p1 + 1), x.2)) ∧ (¬ (6 ≤ x.1) → vp_in x.1 6 ∧ G10_isLaw x.1 x.2 (fun r46 μ45 => ((r46 = 0 → vp_in p1 96 ∧ Bd (sI μ45 (242 + x.1.toNatClampNeg) p1.toNatClampNeg 0) fun μ49 => K31 ((x.1 + 1), μ49)) ∧ (¬ (r46 = 0) → vp_in x.1 6 ∧ G3_result (115 + 6 * x.1.toNatClampNeg) 12 μ45 (fun r52 μ51 => vp_in p1 96 ∧ Bd (sI μ51 (242 + x.1.toNatClampNeg) p1.toNatClampNeg r52) fun μ54 => K31 ((x.1 + 1), μ54)))))))
def G6_weigh_L2    (Q : MM → Prop) (K2 : Int32 × MM → Prop) (x : Int32 × MM) : Prop :=
  (((gI x.2 1 10) ≤ x.1 → Lp (G6_weigh_L93 Q) (0, x.2)) ∧ (¬ ((gI x.2 1 10) ≤ x.1) → vp_in x.1 96 ∧ G10_lookAt (19 + x.1.toNatClampNeg) x.2 (fun μ42 => Lp (G6_weigh_L31 x.1 K2 Q) (0, μ42))))
def G6_weigh  (μ : MM) (Q : MM → Prop) : Prop :=
  Lp (G6_weigh_L2 Q) (0, μ)
def G6_weighedWithin_L4  (p1 : Int32)  (Q : Int32 → MM → Prop) (K4 : Int32 × Int32 × MM → Prop) (x : Int32 × Int32 × MM) : Prop :=
  ((6 ≤ x.2.1 → Q x.1 x.2.2) ∧ (¬ (6 ≤ x.2.1) → G10_isLaw x.2.1 x.2.2 (fun r7 μ6 => ((r7 = 0 → K4 (x.1, (x.2.1 + 1), μ6)) ∧ (¬ (r7 = 0) → vp_in x.2.1 6 ∧ ((p1 < (gI μ6 248 x.2.1.toNatClampNeg) → K4 (x.1, (x.2.1 + 1), μ6)) ∧ (¬ (p1 < (gI μ6 248 x.2.1.toNatClampNeg)) → Bd (x.1 ||| (1 <<< (x.2.1 &&& 31))) fun y11 => K4 (y11, (x.2.1 + 1), μ6))))))))
def G6_weighedWithin (v1 : Int32) (μ : MM) (Q : Int32 → MM → Prop) : Prop :=
  Lp (G6_weighedWithin_L4 v1 Q) (0, 0, μ)
def G6_tellPairs_J47  (p1 : Int32) (q0 : Int64) (μ : MM) (K13 : Int32 × MM → Prop) (Q : Int32 → MM → Prop) : Prop :=
  G7_add q0 μ (fun μ17 => K13 ((p1 + 1), μ17))
def G6_tellPairs_L13    (Q : Int32 → MM → Prop) (K13 : Int32 × MM → Prop) (x : Int32 × MM) : Prop :=
  ((6 ≤ x.1 → G6_weighedWithin 0 x.2 (fun r13 μ12 => Q r13 μ12)) ∧ (¬ (6 ≤ x.1) → G10_isLaw x.1 x.2 (fun r15 μ14 => ((r15 = 0 → G6_tellPairs_J47 x.1 (-1) μ14 K13 Q) ∧ (¬ (r15 = 0) → vp_in x.1 6 ∧ G6_tellPairs_J47 x.1 ((gI μ14 248 x.1.toNatClampNeg).toInt64) μ14 K13 Q)))))
def G6_tellPairs  (μ : MM) (Q : Int32 → MM → Prop) : Prop :=
  G6_weigh μ (fun μ9 => G7_clear μ9 (fun μ10 => Lp (G6_tellPairs_L13 Q) (0, μ10)))
def G11_pairs  (μ : MM) (Q : Int32 → MM → Prop) : Prop :=
  G6_tellPairs μ (fun r4 μ3 => Q r4 μ3)
def G6_mostLeft_J94  (p1 : Int32) (p2 : Int32) (p3 : Int32) (p4 : Int32) (p5 : Int32) (p7 : Int32) (q0 : Int32) (q1 : Int32) (μ : MM) (K12 : Int32 × Int32 × Int32 × Int32 × MM → Prop) (Q : Int32 → MM → Prop) : Prop :=
  Bd (q1 + q0) fun y23 => K12 (p4, p5, y23, (p7 + 1), μ)
def G6_mostLeft_J79  (p1 : Int32) (p2 : Int32) (p3 : Int32) (p4 : Int32) (p6 : Int32) (p7 : Int32) (p8 : Int32) (q0 : Int32) (q1 : Int32) (μ : MM) (K12 : Int32 × Int32 × Int32 × Int32 × MM → Prop) (Q : Int32 → MM → Prop) : Prop :=
  Bd (q1 + q0) fun y21 => ((0 ≤ p8 → G6_mostLeft_J94 p1 p2 p3 p4 y21 p7 0 p6 μ K12 Q) ∧ (¬ (0 ≤ p8) → G6_mostLeft_J94 p1 p2 p3 p4 y21 p7 1 p6 μ K12 Q))
def G6_mostLeft_J64  (p1 : Int32) (p2 : Int32) (p3 : Int32) (p5 : Int32) (p6 : Int32) (p7 : Int32) (p8 : Int32) (q0 : Int32) (q1 : Int32) (μ : MM) (K12 : Int32 × Int32 × Int32 × Int32 × MM → Prop) (Q : Int32 → MM → Prop) : Prop :=
  Bd (q1 + q0) fun y19 => ((p8 ≤ 0 → G6_mostLeft_J79 p1 p2 p3 y19 p6 p7 p8 0 p5 μ K12 Q) ∧ (¬ (p8 ≤ 0) → G6_mostLeft_J79 p1 p2 p3 y19 p6 p7 p8 1 p5 μ K12 Q))
def G6_mostLeft_L12  (p1 : Int32) (p2 : Int32) (p3 : Int32)  (Q : Int32 → MM → Prop) (K12 : Int32 × Int32 × Int32 × Int32 × MM → Prop) (x : Int32 × Int32 × Int32 × Int32 × MM) : Prop :=
  ((6 ≤ x.2.2.2.1 → Q (x.1 + (if x.2.1 < x.2.2.1 then x.2.2.1 else x.2.1)) x.2.2.2.2) ∧ (¬ (6 ≤ x.2.2.2.1) → ((¬ ((p1 >>> (x.2.2.2.1 &&& 31)) &&& 1) = 1 → K12 (x.1, x.2.1, x.2.2.1, (x.2.2.2.1 + 1), x.2.2.2.2)) ∧ (((p1 >>> (x.2.2.2.1 &&& 31)) &&& 1) = 1 → vp_in x.2.2.2.1 6 ∧ vp_in p2 96 ∧ vp_in x.2.2.2.1 6 ∧ vp_in p3 96 ∧ GJ6_compare_7cf53 (gI x.2.2.2.2 (242 + x.2.2.2.1.toNatClampNeg) p2.toNatClampNeg) (gI x.2.2.2.2 (242 + x.2.2.2.1.toNatClampNeg) p3.toNatClampNeg) x.2.2.2.2 (fun r17 μ16 => ((¬ r17 = 0 → G6_mostLeft_J64 p1 p2 p3 x.2.1 x.2.2.1 x.2.2.2.1 r17 0 x.1 μ16 K12 Q) ∧ (r17 = 0 → G6_mostLeft_J64 p1 p2 p3 x.2.1 x.2.2.1 x.2.2.2.1 r17 1 x.1 μ16 K12 Q)))))))
def G6_mostLeft (v1 : Int32) (v2 : Int32) (v3 : Int32) (μ : MM) (Q : Int32 → MM → Prop) : Prop :=
  Lp (G6_mostLeft_L12 v1 v2 v3 Q) (0, 0, 0, 0, μ)
def G6_tellNext_L61  (p1 : Int32) (p5 : Int32) (K43 : Int32 × Int32 × Int32 × Int32 × MM → Prop) (Q : Int32 → MM → Prop) (K61 : Int32 × Int32 × Int32 × Int32 × MM → Prop) (x : Int32 × Int32 × Int32 × Int32 × MM) : Prop :=
  (((gI x.2.2.2.2 1 10) ≤ x.2.2.2.1 → K43 (x.1, x.2.1, x.2.2.1, (p5 + 1), x.2.2.2.2)) ∧ (¬ ((gI x.2.2.2.2 1 10) ≤ x.2.2.2.1) → G6_mostLeft p1 p5 x.2.2.2.1 x.2.2.2.2 (fun r26 μ25 => ((x.1 ≤ r26 → K61 (x.1, x.2.1, x.2.2.1, (x.2.2.2.1 + 1), μ25)) ∧ (¬ (x.1 ≤ r26) → K61 (r26, p5, x.2.2.2.1, (x.2.2.2.1 + 1), μ25))))))
def G6_tellNext_L43  (p1 : Int32)  (Q : Int32 → MM → Prop) (K43 : Int32 × Int32 × Int32 × Int32 × MM → Prop) (x : Int32 × Int32 × Int32 × Int32 × MM) : Prop :=
  (((gI x.2.2.2.2 1 10) ≤ x.2.2.2.1 → G7_clear x.2.2.2.2 (fun μ20 => G7_add (x.2.1.toInt64) μ20 (fun μ21 => G7_add (x.2.2.1.toInt64) μ21 (fun μ22 => Q x.1 μ22)))) ∧ (¬ ((gI x.2.2.2.2 1 10) ≤ x.2.2.2.1) → Bd (x.2.2.2.1 + 1) fun y23 => Lp (G6_tellNext_L61 p1 x.2.2.2.1 K43 Q) (x.1, x.2.1, x.2.2.1, y23, x.2.2.2.2)))
def G6_tellNext  (μ : MM) (Q : Int32 → MM → Prop) : Prop :=
  G6_weigh μ (fun μ12 => G6_weighedWithin 0 μ12 (fun r14 μ13 => GJ6_bitCount_0f7a4 r14 μ13 (fun r16 μ15 => ((r16 < 2 → Q (-2) μ15) ∧ (¬ (r16 < 2) → ((2 ≤ (gI μ15 1 10) → Lp (G6_tellNext_L43 r14 Q) (7, 0, 0, 0, μ15)) ∧ (¬ (2 ≤ (gI μ15 1 10)) → Q (-2) μ15)))))))
def G11_ask  (μ : MM) (Q : Int32 → MM → Prop) : Prop :=
  G6_tellNext μ (fun r4 μ3 => Q r4 μ3)
def G6_lawsWithin (v1 : Int32) (μ : MM) (Q : Int32 → MM → Prop) : Prop :=
  G11_within v1 0 40 μ (fun r7 μ6 => ((¬ r7 = 0 → G6_weigh μ6 (fun μ9 => G6_weighedWithin v1 μ9 (fun r11 μ10 => Q r11 μ10))) ∧ (r7 = 0 → Q (-1) μ6)))
def G11_nearly (v1 : Int32) (μ : MM) (Q : Int32 → MM → Prop) : Prop :=
  G6_lawsWithin v1 μ (fun r4 μ3 => Q r4 μ3)
def G0_addProduct_L26 (t : Nat) (a1 : Nat) (a2 : Nat) (p3 : Int32) (K15 : Int32 × MM → Prop) (Q : MM → Prop) (K26 : Int32 × MM → Prop) (x : Int32 × MM) : Prop :=
  (((gI x.2 a2 1) ≤ x.1 → K15 ((p3 + 1), x.2)) ∧ (¬ ((gI x.2 a2 1) ≤ x.1) → (((gI x.2 t 1) ≤ (p3 + x.1) → K15 ((p3 + 1), x.2)) ∧ (¬ ((gI x.2 t 1) ≤ (p3 + x.1)) → vp_in (p3 + x.1) (ln (t + 1)) ∧ vp_in p3 (ln (a1 + 1)) ∧ vp_in x.1 (ln (a2 + 1)) ∧ vp_in (p3 + x.1) (ln (t + 1)) ∧ Bd (sJ x.2 (t + 1) ((p3 + x.1).toNatClampNeg) ((gJ x.2 (t + 1) ((p3 + x.1).toNatClampNeg)) + ((gJ x.2 (a1 + 1) p3.toNatClampNeg) * (gJ x.2 (a2 + 1) x.1.toNatClampNeg)))) fun μ17 => K26 ((x.1 + 1), μ17)))))
def G0_addProduct_L15 (t : Nat) (a1 : Nat) (a2 : Nat)   (Q : MM → Prop) (K15 : Int32 × MM → Prop) (x : Int32 × MM) : Prop :=
  (((gI x.2 a1 1) ≤ x.1 → G0_carry t x.2 (fun μ10 => Q μ10)) ∧ (¬ ((gI x.2 a1 1) ≤ x.1) → Lp (G0_addProduct_L26 t a1 a2 x.1 K15 Q) (0, x.2)))
def G0_addProduct (t : Nat) (a1 : Nat) (a2 : Nat) (μ : MM) (Q : MM → Prop) : Prop :=
  G0_stretch t ((gI μ a1 1) + (gI μ a2 1)) μ (fun μ8 => Lp (G0_addProduct_L15 t a1 a2 Q) (0, μ8))
def G0_limb_J21 (t : Nat)  (μ : MM)  (Q : Int64 → MM → Prop) : Prop :=
  Q 0 μ
def G0_limb (t : Nat) (v1 : Int32) (μ : MM) (Q : Int64 → MM → Prop) : Prop :=
  ((v1 < 0 → G0_limb_J21 t μ Q) ∧ (¬ (v1 < 0) → (((gI μ t 1) ≤ v1 → G0_limb_J21 t μ Q) ∧ (¬ ((gI μ t 1) ≤ v1) → vp_in v1 (ln (t + 1)) ∧ Q (gJ μ (t + 1) v1.toNatClampNeg) μ))))
def G0_cutBy (t : Nat) (v1 : Int32) (μ : MM) (Q : Int64 → MM → Prop) : Prop :=
  Bd (v1 / 2) fun y7 => G0_limb t (y7 + 1) μ (fun r9 μ8 => G0_limb t y7 μ8 (fun r11 μ10 => Bd ((r9 * 100000000) + r11) fun y12 => ((¬ (v1 - v1 / 2 * 2) = 0 → Q (y12 / 10000) μ10) ∧ ((v1 - v1 / 2 * 2) = 0 → Q y12 μ10))))
def G1_chance_L11 (a3 : Nat) (p1 : Int32) (p2 : Int32)  (Q : Int32 → MM → Prop) (K11 : Int32 × MM → Prop) (x : Int32 × MM) : Prop :=
  ((p1 < x.1 → G0_times 253 1000000 x.2 (fun μ11 => G0_cutBy 253 p1 μ11 (fun r13 μ12 => Q (r13.toInt32) μ12))) ∧ (¬ (p1 < x.1) → vp_in x.1 (ln a3) ∧ Rl (R0 a3 x.1.toNatClampNeg) fun r15 => Ob r15 0 ∧ vp_in (x.1 - p2) 17 ∧ G0_addProduct 253 r15 (259 + 6 * (x.1 - p2).toNatClampNeg) x.2 (fun μ17 => K11 ((x.1 + 1), μ17))))
def G1_chance (v1 : Int32) (v2 : Int32) (a3 : Nat) (μ : MM) (Q : Int32 → MM → Prop) : Prop :=
  G0_become 253 0 μ (fun μ9 => Lp (G1_chance_L11 a3 v1 v2 Q) (v2, μ9))
def G0_add_J47 (t : Nat) (a1 : Nat)  (μ : MM)  (Q : MM → Prop) : Prop :=
  G0_carry t μ (fun μ9 => Q μ9)
def G0_add_L10 (t : Nat) (a1 : Nat)   (Q : MM → Prop) (K10 : Int32 × MM → Prop) (x : Int32 × MM) : Prop :=
  (((gI x.2 a1 1) ≤ x.1 → G0_add_J47 t a1 x.2 Q) ∧ (¬ ((gI x.2 a1 1) ≤ x.1) → (((gI x.2 t 1) ≤ x.1 → G0_add_J47 t a1 x.2 Q) ∧ (¬ ((gI x.2 t 1) ≤ x.1) → vp_in x.1 (ln (t + 1)) ∧ vp_in x.1 (ln (a1 + 1)) ∧ vp_in x.1 (ln (t + 1)) ∧ Bd (sJ x.2 (t + 1) x.1.toNatClampNeg ((gJ x.2 (t + 1) x.1.toNatClampNeg) + (gJ x.2 (a1 + 1) x.1.toNatClampNeg))) fun μ14 => K10 ((x.1 + 1), μ14)))))
def G0_add (t : Nat) (a1 : Nat) (μ : MM) (Q : MM → Prop) : Prop :=
  G0_stretch t (gI μ a1 1) μ (fun μ7 => Lp (G0_add_L10 t a1 Q) (0, μ7))
def G1_fillWays_J36 (a0 : Nat) (p1 : Int32) (p2 : Int32) (p3 : Int32) (p4 : Int32) (q0 : Int64) (μ : MM) (K13 : Int32 × MM → Prop) (Q : MM → Prop) : Prop :=
  G0_times a0 q0 μ (fun μ10 => K13 ((p4 + 1), μ10))
def G1_fillWays_L13 (a0 : Nat) (p1 : Int32) (p2 : Int32) (p3 : Int32)  (Q : MM → Prop) (K13 : Int32 × MM → Prop) (x : Int32 × MM) : Prop :=
  ((p1 ≤ x.1 → Q x.2) ∧ (¬ (p1 ≤ x.1) → ((p2 ≤ x.1 → G1_fillWays_J36 a0 p1 p2 p3 x.1 ((100 - p3).toInt64) x.2 K13 Q) ∧ (¬ (p2 ≤ x.1) → G1_fillWays_J36 a0 p1 p2 p3 x.1 (p3.toInt64) x.2 K13 Q))))
def G1_fillWays (a0 : Nat) (v1 : Int32) (v2 : Int32) (v3 : Int32) (μ : MM) (Q : MM → Prop) : Prop :=
  G11_choices v1 v2 μ (fun r6 μ5 => G0_become a0 (r6.toInt32) μ5 (fun μ7 => Lp (G1_fillWays_L13 a0 v1 v2 v3 Q) (0, μ7)))
def G1_fill_J72  (p1 : Int32) (p2 : Int32) (p3 : Int32) (p4 : Int32) (μ : MM) (K3 : Int32 × MM → Prop) (Q : MM → Prop) : Prop :=
  vp_in p4 17 ∧ vp_in p4 17 ∧ G0_add (259 + 6 * p4.toNatClampNeg) (257 + 6 * p4.toNatClampNeg) μ (fun μ23 => K3 ((p4 + 1), μ23))
def G1_fill_L3  (p1 : Int32) (p2 : Int32) (p3 : Int32)  (Q : MM → Prop) (K3 : Int32 × MM → Prop) (x : Int32 × MM) : Prop :=
  ((p1 < x.1 → Q x.2) ∧ (¬ (p1 < x.1) → vp_in x.1 17 ∧ G1_fillWays (255 + 6 * x.1.toNatClampNeg) p1 x.1 p2 x.2 (fun μ15 => vp_in x.1 17 ∧ G1_fillWays (257 + 6 * x.1.toNatClampNeg) p1 x.1 p3 μ15 (fun μ17 => vp_in x.1 17 ∧ G0_become (259 + 6 * x.1.toNatClampNeg) 0 μ17 (fun μ19 => ((x.1 ≤ 0 → G1_fill_J72 p1 p2 p3 x.1 μ19 K3 Q) ∧ (¬ (x.1 ≤ 0) → vp_in x.1 17 ∧ vp_in (x.1 - 1) 17 ∧ G0_add (259 + 6 * x.1.toNatClampNeg) (259 + 6 * (x.1 - 1).toNatClampNeg) μ19 (fun μ26 => G1_fill_J72 p1 p2 p3 x.1 μ26 K3 Q))))))))
def G1_fill (v1 : Int32) (v2 : Int32) (v3 : Int32) (μ : MM) (Q : MM → Prop) : Prop :=
  Lp (G1_fill_L3 v1 v2 v3 Q) (0, μ)
def G1_chanceOf_J26  (p1 : Int32) (p2 : Int32) (p3 : Int32) (p4 : Int32) (q0 : Int32) (μ : MM)  (Q : Int32 → MM → Prop) : Prop :=
  ((q0 = 0 → Q (-1) μ) ∧ (¬ (q0 = 0) → G11_within p2 0 100 μ (fun r17 μ16 => ((r17 = 0 → Q (-1) μ16) ∧ (¬ (r17 = 0) → G11_within p3 0 100 μ16 (fun r20 μ19 => ((¬ r20 = 0 → G1_fill p1 p2 p3 μ19 (fun μ22 => G1_chance p1 p4 250 μ22 (fun r24 μ23 => Q r24 μ23))) ∧ (r20 = 0 → Q (-1) μ19))))))))
def G1_chanceOf_J25  (p1 : Int32) (p2 : Int32) (p3 : Int32) (p4 : Int32) (μ : MM)  (Q : Int32 → MM → Prop) : Prop :=
  G1_chanceOf_J26 p1 p2 p3 p4 0 μ Q
def G1_chanceOf (v1 : Int32) (v2 : Int32) (v3 : Int32) (v4 : Int32) (μ : MM) (Q : Int32 → MM → Prop) : Prop :=
  G11_within v1 1 16 μ (fun r13 μ12 => ((r13 = 0 → G1_chanceOf_J25 v1 v2 v3 v4 μ12 Q) ∧ (¬ (r13 = 0) → G11_within v4 1 16 μ12 (fun r26 μ25 => ((r26 = 0 → G1_chanceOf_J25 v1 v2 v3 v4 μ25 Q) ∧ (¬ (r26 = 0) → G1_chanceOf_J26 v1 v2 v3 v4 1 μ25 Q))))))
def G11_shows (v1 : Int32) (v2 : Int32) (v3 : Int32) (v4 : Int32) (μ : MM) (Q : Int32 → MM → Prop) : Prop :=
  G1_chanceOf v1 v2 v3 v4 μ (fun r4 μ3 => Q r4 μ3)
def G1_tellLeast_J148  (p1 : Int32) (p2 : Int32) (p3 : Int32) (p4 : Int32) (p6 : Int32) (p7 : Int32) (p8 : Int32) (μ : MM) (K58 : Int32 × MM → Prop) (K76 : Int32 × MM → Prop) (Q : Int32 → MM → Prop) : Prop :=
  ((p8 = 0 → K76 ((p7 + 1), μ)) ∧ (¬ (p8 = 0) → K58 ((p6 + 1), μ)))
def G1_tellLeast_J105  (p1 : Int32) (p2 : Int32) (p3 : Int32) (p4 : Int32) (p6 : Int32) (p7 : Int32) (q0 : Int32) (μ : MM) (K58 : Int32 × MM → Prop) (K76 : Int32 × MM → Prop) (Q : Int32 → MM → Prop) : Prop :=
  ((q0 = 0 → G1_tellLeast_J148 p1 p2 p3 p4 p6 p7 q0 μ K58 K76 Q) ∧ (¬ (q0 = 0) → G1_chance p6 p7 250 μ (fun r35 μ34 => ((r35 < p3 → G1_tellLeast_J148 p1 p2 p3 p4 p6 p7 q0 μ34 K58 K76 Q) ∧ (¬ (r35 < p3) → G7_clear μ34 (fun μ37 => G7_add (p7.toInt64) μ37 (fun μ38 => Q p6 μ38)))))))
def G1_tellLeast_L76  (p1 : Int32) (p2 : Int32) (p3 : Int32) (p4 : Int32) (p6 : Int32) (K58 : Int32 × MM → Prop) (Q : Int32 → MM → Prop) (K76 : Int32 × MM → Prop) (x : Int32 × MM) : Prop :=
  ((p6 < x.1 → K58 ((p6 + 1), x.2)) ∧ (¬ (p6 < x.1) → G1_chance p6 x.1 251 x.2 (fun r30 μ29 => ((p4 < r30 → G1_tellLeast_J105 p1 p2 p3 p4 p6 x.1 0 μ29 K58 K76 Q) ∧ (¬ (p4 < r30) → G1_tellLeast_J105 p1 p2 p3 p4 p6 x.1 1 μ29 K58 K76 Q)))))
def G1_tellLeast_L58  (p1 : Int32) (p2 : Int32) (p3 : Int32) (p4 : Int32)  (Q : Int32 → MM → Prop) (K58 : Int32 × MM → Prop) (x : Int32 × MM) : Prop :=
  ((16 < x.1 → Q (-2) x.2) ∧ (¬ (16 < x.1) → G1_fill x.1 p1 p2 x.2 (fun μ27 => Lp (G1_tellLeast_L76 p1 p2 p3 p4 x.1 K58 Q) (1, μ27))))
def G1_tellLeast_J26  (p1 : Int32) (p2 : Int32) (p3 : Int32) (p4 : Int32) (q0 : Int32) (μ : MM)  (Q : Int32 → MM → Prop) : Prop :=
  ((q0 = 0 → Q (-1) μ) ∧ (¬ (q0 = 0) → G11_within p1 0 100 μ (fun r21 μ20 => ((r21 = 0 → Q (-1) μ20) ∧ (¬ (r21 = 0) → G11_within p2 0 100 μ20 (fun r24 μ23 => ((¬ r24 = 0 → Lp (G1_tellLeast_L58 p1 p2 p3 p4 Q) (1, μ23)) ∧ (r24 = 0 → Q (-1) μ23))))))))
def G1_tellLeast_J25  (p1 : Int32) (p2 : Int32) (p3 : Int32) (p4 : Int32) (μ : MM)  (Q : Int32 → MM → Prop) : Prop :=
  G1_tellLeast_J26 p1 p2 p3 p4 0 μ Q
def G1_tellLeast (v1 : Int32) (v2 : Int32) (v3 : Int32) (v4 : Int32) (μ : MM) (Q : Int32 → MM → Prop) : Prop :=
  G11_within v3 1 1000000 μ (fun r17 μ16 => ((r17 = 0 → G1_tellLeast_J25 v1 v2 v3 v4 μ16 Q) ∧ (¬ (r17 = 0) → G11_within v4 0 1000000 μ16 (fun r40 μ39 => ((r40 = 0 → G1_tellLeast_J25 v1 v2 v3 v4 μ39 Q) ∧ (¬ (r40 = 0) → G1_tellLeast_J26 v1 v2 v3 v4 1 μ39 Q))))))
def G11_least (v1 : Int32) (v2 : Int32) (v3 : Int32) (v4 : Int32) (μ : MM) (Q : Int32 → MM → Prop) : Prop :=
  G1_tellLeast v1 v2 v3 v4 μ (fun r4 μ3 => Q r4 μ3)
def G5_state_J12 (t : Nat) (q0 : Int32) (μ : MM)  (Q : Int32 → MM → Prop) : Prop :=
  (((gI μ t 7) = 0 → Q ((q0 + 0) + (4 * (gI μ t 8))) μ) ∧ (¬ ((gI μ t 7) = 0) → Q ((q0 + 2) + (4 * (gI μ t 8))) μ))
def G5_state (t : Nat) (μ : MM) (Q : Int32 → MM → Prop) : Prop :=
  (((gI μ t 6) = 0 → G5_state_J12 t 0 μ Q) ∧ (¬ ((gI μ t 6) = 0) → G5_state_J12 t 1 μ Q))
def G10_keepUnder_L22  (p1 : Int32)  (Q : MM → Prop) (K22 : Int32 × MM → Prop) (x : Int32 × MM) : Prop :=
  (((gI x.2 1 10) ≤ x.1 → Q x.2) ∧ (¬ ((gI x.2 1 10) ≤ x.1) → vp_in p1 3 ∧ vp_in x.1 96 ∧ G5_state (19 + x.1.toNatClampNeg) x.2 (fun r19 μ18 => vp_in x.1 96 ∧ Bd (sI μ18 (16 + p1.toNatClampNeg) x.1.toNatClampNeg r19) fun μ21 => K22 ((x.1 + 1), μ21))))
def G10_keepUnder (v1 : Int32) (μ : MM) (Q : MM → Prop) : Prop :=
  vp_in v1 3 ∧ Bd (sI μ 13 v1.toNatClampNeg (gI μ 1 10)) fun μ12 => vp_in v1 3 ∧ Bd (sI μ12 14 v1.toNatClampNeg (gI μ12 1 14)) fun μ14 => Lp (G10_keepUnder_L22 v1 Q) (0, μ14)
def G11_keep (v1 : Int32) (μ : MM) (Q : Int32 → MM → Prop) : Prop :=
  G11_within v1 0 2 μ (fun r5 μ4 => ((¬ r5 = 0 → G10_keepUnder v1 μ4 (fun μ7 => Q 1 μ7)) ∧ (r5 = 0 → Q 0 μ4)))
def G10_bringBack_L47  (p1 : Int32)  (Q : Int32 → MM → Prop) (K47 : Int32 × MM → Prop) (x : Int32 × MM) : Prop :=
  (((gI x.2 1 10) ≤ x.1 → Q 1 x.2) ∧ (¬ ((gI x.2 1 10) ≤ x.1) → vp_in x.1 96 ∧ vp_in p1 3 ∧ vp_in x.1 96 ∧ G5_becomeState (19 + x.1.toNatClampNeg) (gI x.2 (16 + p1.toNatClampNeg) x.1.toNatClampNeg) x.2 (fun μ23 => K47 ((x.1 + 1), μ23))))
def G10_bringBack (v1 : Int32) (μ : MM) (Q : Int32 → MM → Prop) : Prop :=
  vp_in v1 3 ∧ (((gI μ 13 v1.toNatClampNeg) = (-1) → Q 0 μ) ∧ (¬ ((gI μ 13 v1.toNatClampNeg) = (-1)) → vp_in v1 3 ∧ (((gI μ 13 v1.toNatClampNeg) ≤ (gI μ 1 10) → vp_in v1 3 ∧ Bd (sI μ 1 10 (gI μ 13 v1.toNatClampNeg)) fun μ16 => vp_in v1 3 ∧ Bd (sI μ16 1 14 (gI μ16 14 v1.toNatClampNeg)) fun μ18 => Lp (G10_bringBack_L47 v1 Q) (0, μ18)) ∧ (¬ ((gI μ 13 v1.toNatClampNeg) ≤ (gI μ 1 10)) → Q 0 μ))))
def G11_again (v1 : Int32) (μ : MM) (Q : Int32 → MM → Prop) : Prop :=
  G11_within v1 0 2 μ (fun r7 μ6 => ((r7 = 0 → Q 0 μ6) ∧ (¬ (r7 = 0) → G10_bringBack v1 μ6 (fun r10 μ9 => ((¬ r10 = 0 → Bd (sI μ9 237 5 0) fun μ12 => Q 1 μ12) ∧ (r10 = 0 → Q 0 μ9))))))
def G11_toldBits_L4 (a0 : Nat)   (Q : Int32 → MM → Prop) (K4 : Int32 × Int32 × MM → Prop) (x : Int32 × Int32 × MM) : Prop :=
  ((6 ≤ x.2.1 → Q x.1 x.2.2) ∧ (¬ (6 ≤ x.2.1) → vp_in x.2.1 (ln a0) ∧ Rl (R0 a0 x.2.1.toNatClampNeg) fun r8 => Ob r8 3 ∧ G3_isTold r8 x.2.2 (fun r10 μ9 => ((r10 = 0 → K4 (x.1, (x.2.1 + 1), μ9)) ∧ (¬ (r10 = 0) → Bd (x.1 ||| (1 <<< (x.2.1 &&& 31))) fun y12 => K4 (y12, (x.2.1 + 1), μ9))))))
def G11_toldBits (a0 : Nat) (μ : MM) (Q : Int32 → MM → Prop) : Prop :=
  Lp (G11_toldBits_L4 a0 Q) (0, 0, μ)
def G10_readCount_L4    (Q : Int32 → MM → Prop) (K4 : Int32 × Int32 × MM → Prop) (x : Int32 × Int32 × MM) : Prop :=
  (((gI x.2.2 1 10) ≤ x.2.1 → Q x.1 x.2.2) ∧ (¬ ((gI x.2.2 1 10) ≤ x.2.1) → vp_in x.2.1 96 ∧ (((gI x.2.2 (19 + x.2.1.toNatClampNeg) 6) = 0 → Bd (x.1 + 0) fun y7 => K4 (y7, (x.2.1 + 1), x.2.2)) ∧ (¬ ((gI x.2.2 (19 + x.2.1.toNatClampNeg) 6) = 0) → Bd (x.1 + 1) fun y8 => K4 (y8, (x.2.1 + 1), x.2.2)))))
def G10_readCount  (μ : MM) (Q : Int32 → MM → Prop) : Prop :=
  Lp (G10_readCount_L4 Q) (0, 0, μ)
def G10_rungCount_L4    (Q : Int32 → MM → Prop) (K4 : Int32 × Int32 × MM → Prop) (x : Int32 × Int32 × MM) : Prop :=
  (((gI x.2.2 1 10) ≤ x.2.1 → Q x.1 x.2.2) ∧ (¬ ((gI x.2.2 1 10) ≤ x.2.1) → vp_in x.2.1 96 ∧ (((gI x.2.2 (19 + x.2.1.toNatClampNeg) 7) = 0 → Bd (x.1 + 0) fun y7 => K4 (y7, (x.2.1 + 1), x.2.2)) ∧ (¬ ((gI x.2.2 (19 + x.2.1.toNatClampNeg) 7) = 0) → Bd (x.1 + 1) fun y8 => K4 (y8, (x.2.1 + 1), x.2.2)))))
def G10_rungCount  (μ : MM) (Q : Int32 → MM → Prop) : Prop :=
  Lp (G10_rungCount_L4 Q) (0, 0, μ)
def G11_count (v1 : Int32) (μ : MM) (Q : Int32 → MM → Prop) : Prop :=
  ((v1 = 0 → Q (gI μ 1 4) μ) ∧ (v1 = 1 → Q (gI μ 1 8) μ) ∧ (v1 = 2 → Q (gI μ 1 10) μ) ∧ (v1 = 3 → G10_readCount μ (fun r14 μ13 => Q r14 μ13)) ∧ (v1 = 4 → G10_rungCount μ (fun r17 μ16 => Q r17 μ16)) ∧ (v1 = 5 → G11_toldBits 10 μ (fun r20 μ19 => Q r20 μ19)) ∧ (v1 = 6 → G11_toldBits 11 μ (fun r23 μ22 => Q r23 μ22)) ∧ (v1 = 7 → Q (gI μ 237 5) μ) ∧ (v1 = 8 → Q (gI μ 151 1) μ) ∧ (v1 = 9 → Q (gI μ 0 8) μ) ∧ (¬ v1 = 0 → ¬ v1 = 1 → ¬ v1 = 2 → ¬ v1 = 3 → ¬ v1 = 4 → ¬ v1 = 5 → ¬ v1 = 6 → ¬ v1 = 7 → ¬ v1 = 8 → ¬ v1 = 9 → Q (-1) μ))
def G11_row_J15   (μ : MM)  (Q : Int64 → MM → Prop) (X : MM → Prop) : Prop :=
  X μ
def G11_row (v1 : Int32) (μ : MM) (Q : Int64 → MM → Prop) (X : MM → Prop) : Prop :=
  ((v1 < 0 → G11_row_J15 μ Q X) ∧ (¬ (v1 < 0) → ((v1 < (gI μ 151 1) → vp_in v1 10 ∧ Q (gJ μ 152 v1.toNatClampNeg) μ) ∧ (¬ (v1 < (gI μ 151 1)) → G11_row_J15 μ Q X))))
def G12_thrown  (μ : MM) (Q : Int32 → MM → Prop) : Prop :=
  Q (gI μ 358 0) μ
def G12_in_J17   (μ : MM)  (Q : Int32 → MM → Prop) : Prop :=
  Q 0 μ
def G12_in (v0 : Int64) (v2 : Int64) (v4 : Int64) (μ : MM) (Q : Int32 → MM → Prop) : Prop :=
  (((lg_cmp v0 v2) < 0 → G12_in_J17 μ Q) ∧ (¬ ((lg_cmp v0 v2) < 0) → ((0 < (lg_cmp v0 v4) → G12_in_J17 μ Q) ∧ (¬ (0 < (lg_cmp v0 v4)) → Q 1 μ))))
def G12_has (v0 : Int32) (v1 : Int32) (μ : MM) (Q : Int32 → MM → Prop) : Prop :=
  ((¬ ((v0 >>> (v1 &&& 31)) &&& 1) = 1 → Q 0 μ) ∧ (((v0 >>> (v1 &&& 31)) &&& 1) = 1 → Q 1 μ))
def G12_flag (v0 : Int32) (μ : MM) (Q : Int32 → MM → Prop) : Prop :=
  ((v0 = 0 → Q 0 μ) ∧ (¬ (v0 = 0) → Q 1 μ))
def G12_refuse  (μ : MM) (Q : Int32 → MM → Prop) : Prop :=
  Bd (sI μ 358 0 1) fun μ2 => Q 0 μ2
def G12_enters (v1 : Int64) (μ : MM) (Q : MM → Prop) : Prop :=
  vp_in (gI μ 358 1) 32 ∧ Bd (sJ μ 359 ((gI μ 358 1).toNatClampNeg) v1) fun μ5 => Bd (sI μ5 358 1 ((gI μ5 358 1) + 1)) fun μ6 => Q μ6
def G12_common_L17    (Q : Int64 → MM → Prop) (K17 : Int64 × Int64 × MM → Prop) (x : Int64 × Int64 × MM) : Prop :=
  (((lg_cmp x.2.1 0) = 0 → Q x.1 x.2.2) ∧ (¬ ((lg_cmp x.2.1 0) = 0) → ¬ x.2.1 = 0 ∧ Bd (x.1 - x.1 / x.2.1 * x.2.1) fun y7 => K17 (x.2.1, y7, x.2.2)))
def G12_common (v0 : Int64) (v2 : Int64) (μ : MM) (Q : Int64 → MM → Prop) : Prop :=
  ((0 ≤ (lg_cmp v0 0) → Lp (G12_common_L17 Q) (v0, v2, μ)) ∧ (¬ (0 ≤ (lg_cmp v0 0)) → Bd (-v0) fun y8 => Lp (G12_common_L17 Q) (y8, v2, μ)))
def G12_entersFraction (v1 : Int64) (v3 : Int64) (μ : MM) (Q : MM → Prop) : Prop :=
  G12_common v1 v3 μ (fun r8 μ7 => ¬ r8 = 0 ∧ G12_enters (v1 / r8) μ7 (fun μ10 => ¬ r8 = 0 ∧ G12_enters (v3 / r8) μ10 (fun μ12 => Q μ12)))
def G12_draws (v1 : Int32) (μ : MM) (Q : Int32 → MM → Prop) : Prop :=
  Bd (sI μ 358 22 (((gI μ 358 22) * 1103515245) + 12345)) fun μ3 => ¬ v1 = 0 ∧ Q ((((gI μ3 358 22).toUInt32 >>> ((16 : Int32).toUInt32 &&& Int32.toUInt32 31)).toInt32) - (((gI μ3 358 22).toUInt32 >>> ((16 : Int32).toUInt32 &&& Int32.toUInt32 31)).toInt32) / v1 * v1) μ3
def G12_isName (v1 : Int32) (μ : MM) (Q : Int32 → MM → Prop) : Prop :=
  G12_in (v1.toInt64) 0 (((gI μ 358 3) - 1).toInt64) μ (fun r4 μ3 => bo r4 ∧ Q r4 μ3)
def G12_isHouse (v1 : Int32) (μ : MM) (Q : Int32 → MM → Prop) : Prop :=
  G12_in (v1.toInt64) 0 (((gI μ 358 8) - 1).toInt64) μ (fun r4 μ3 => bo r4 ∧ Q r4 μ3)
def G12_isLetter (v1 : Int32) (μ : MM) (Q : Int32 → MM → Prop) : Prop :=
  G12_in (v1.toInt64) 0 (((gI μ 358 12) - 1).toInt64) μ (fun r4 μ3 => bo r4 ∧ Q r4 μ3)
def G12_name (v1 : Int32) (v2 : Int32) (v3 : Int32) (μ : MM) (Q : Int32 → MM → Prop) : Prop :=
  Bd (sI μ 358 0 0) fun μ17 => G12_in (v1.toInt64) 0 1 μ17 (fun r19 μ18 => ((r19 = 0 → Q (-1) μ18) ∧ (¬ (r19 = 0) → G12_in (v2.toInt64) 0 1 μ18 (fun r22 μ21 => ((r22 = 0 → Q (-1) μ21) ∧ (¬ (r22 = 0) → ((v3 < 0 → Q (-1) μ21) ∧ (¬ (v3 < 0) → G12_in ((v3 / 101).toInt64) 0 9 μ21 (fun r26 μ25 => ((r26 = 0 → Q (-1) μ25) ∧ (¬ (r26 = 0) → ((¬ (gI μ25 358 3) = 12 → vp_in (gI μ25 358 3) 12 ∧ Bd (sI μ25 360 ((gI μ25 358 3).toNatClampNeg) v1) fun μ30 => vp_in (gI μ30 358 3) 12 ∧ Bd (sI μ30 361 ((gI μ30 358 3).toNatClampNeg) v2) fun μ32 => vp_in (gI μ32 358 3) 12 ∧ Bd (sI μ32 362 ((gI μ32 358 3).toNatClampNeg) (v3 / 101)) fun μ34 => vp_in (gI μ34 358 3) 12 ∧ Bd (sI μ34 363 ((gI μ34 358 3).toNatClampNeg) (v3 - v3 / 101 * 101)) fun μ36 => Bd (sI μ36 358 3 ((gI μ36 358 3) + 1)) fun μ37 => Q ((gI μ37 358 3) - 1) μ37) ∧ ((gI μ25 358 3) = 12 → Q (-1) μ25)))))))))))))
def G12_house (v1 : Int32) (v2 : Int32) (v3 : Int32) (μ : MM) (Q : Int32 → MM → Prop) : Prop :=
  Bd (sI μ 358 0 0) fun μ15 => G12_in (v1.toInt64) 0 3 μ15 (fun r17 μ16 => ((r17 = 0 → Q (-1) μ16) ∧ (¬ (r17 = 0) → G12_in (v2.toInt64) 0 3 μ16 (fun r20 μ19 => ((r20 = 0 → Q (-1) μ19) ∧ (¬ (r20 = 0) → G12_in (v3.toInt64) 0 5 μ19 (fun r23 μ22 => ((r23 = 0 → Q (-1) μ22) ∧ (¬ (r23 = 0) → ((¬ (gI μ22 358 8) = 24 → vp_in (gI μ22 358 8) 24 ∧ Bd (sI μ22 364 ((gI μ22 358 8).toNatClampNeg) v1) fun μ27 => vp_in (gI μ27 358 8) 24 ∧ Bd (sI μ27 365 ((gI μ27 358 8).toNatClampNeg) v2) fun μ29 => vp_in (gI μ29 358 8) 24 ∧ Bd (sI μ29 366 ((gI μ29 358 8).toNatClampNeg) v3) fun μ31 => Bd (sI μ31 358 8 ((gI μ31 358 8) + 1)) fun μ32 => Q ((gI μ32 358 8) - 1) μ32) ∧ ((gI μ22 358 8) = 24 → Q (-1) μ22)))))))))))
def G12_lettersTo_J28  (p1 : Int32) (p3 : Int32) (q0 : Int32) (q1 : Int32) (μ : MM) (K4 : Int32 × Int32 × MM → Prop) (Q : Int32 → MM → Prop) : Prop :=
  G12_flag q0 μ (fun r9 μ8 => Bd (q1 + r9) fun y10 => K4 (y10, (p3 + 1), μ8))
def G12_lettersTo_L4  (p1 : Int32)  (Q : Int32 → MM → Prop) (K4 : Int32 × Int32 × MM → Prop) (x : Int32 × Int32 × MM) : Prop :=
  (((gI x.2.2 358 12) ≤ x.2.1 → Q x.1 x.2.2) ∧ (¬ ((gI x.2.2 358 12) ≤ x.2.1) → vp_in x.2.1 96 ∧ ((¬ (gI x.2.2 367 x.2.1.toNatClampNeg) = p1 → G12_lettersTo_J28 p1 x.2.1 0 x.1 x.2.2 K4 Q) ∧ ((gI x.2.2 367 x.2.1.toNatClampNeg) = p1 → G12_lettersTo_J28 p1 x.2.1 1 x.1 x.2.2 K4 Q))))
def G12_lettersTo (v1 : Int32) (μ : MM) (Q : Int32 → MM → Prop) : Prop :=
  Lp (G12_lettersTo_L4 v1 Q) (0, 0, μ)
def G12_lays (v1 : Int32) (v2 : Int32) (v3 : Int32) (v4 : Int32) (v5 : Int32) (v6 : Int32) (μ : MM) (Q : MM → Prop) : Prop :=
  Bd (gI μ 358 12) fun y21 => vp_in y21 96 ∧ Bd (sI μ 367 y21.toNatClampNeg v1) fun μ23 => vp_in y21 96 ∧ Bd (sI μ23 368 y21.toNatClampNeg v2) fun μ25 => vp_in y21 96 ∧ Bd (sI μ25 369 y21.toNatClampNeg v3) fun μ27 => vp_in y21 96 ∧ Bd (sI μ27 370 y21.toNatClampNeg v4) fun μ29 => vp_in y21 96 ∧ Bd (sI μ29 371 y21.toNatClampNeg v5) fun μ31 => vp_in y21 96 ∧ Bd (sI μ31 372 y21.toNatClampNeg v6) fun μ33 => vp_in y21 96 ∧ Bd (sI μ33 373 y21.toNatClampNeg (vp_nar .boolean 0)) fun μ35 => vp_in y21 96 ∧ Bd (sI μ35 374 y21.toNatClampNeg (vp_nar .boolean 0)) fun μ37 => vp_in y21 96 ∧ Bd (sI μ37 375 y21.toNatClampNeg 0) fun μ39 => Bd (sI μ39 358 12 ((gI μ39 358 12) + 1)) fun μ40 => Q μ40
def G12_letter_J71  (p1 : Int32) (p2 : Int32) (p3 : Int32) (p4 : Int32) (p5 : Int32) (q0 : Int32) (μ : MM)  (Q : Int32 → MM → Prop) : Prop :=
  ((q0 = 0 → Q (-1) μ) ∧ (¬ (q0 = 0) → (((gI μ 358 12) = 96 → Q (-1) μ) ∧ (¬ ((gI μ 358 12) = 96) → G12_lettersTo p1 μ (fun r22 μ21 => ((¬ r22 = 4 → G12_lays p1 p2 p3 (p4 / 4) (p4 - p4 / 4 * 4) p5 μ21 (fun μ24 => Q ((gI μ24 358 12) - 1) μ24)) ∧ (r22 = 4 → Q (-1) μ21)))))))
def G12_letter_J70  (p1 : Int32) (p2 : Int32) (p3 : Int32) (p4 : Int32) (p5 : Int32) (μ : MM)  (Q : Int32 → MM → Prop) : Prop :=
  G12_letter_J71 p1 p2 p3 p4 p5 0 μ Q
def G12_letter (v1 : Int32) (v2 : Int32) (v3 : Int32) (v4 : Int32) (v5 : Int32) (μ : MM) (Q : Int32 → MM → Prop) : Prop :=
  Bd (sI μ 358 0 0) fun μ15 => G12_isHouse v1 μ15 (fun r17 μ16 => ((r17 = 0 → G12_letter_J70 v1 v2 v3 v4 v5 μ16 Q) ∧ (¬ (r17 = 0) → G12_isName v2 μ16 (fun r26 μ25 => ((r26 = 0 → G12_letter_J70 v1 v2 v3 v4 v5 μ25 Q) ∧ (¬ (r26 = 0) → G12_in (v3.toInt64) 0 99 μ25 (fun r29 μ28 => ((r29 = 0 → G12_letter_J70 v1 v2 v3 v4 v5 μ28 Q) ∧ (¬ (r29 = 0) → ((v4 < 0 → G12_letter_J70 v1 v2 v3 v4 v5 μ28 Q) ∧ (¬ (v4 < 0) → G12_in ((v4 / 4).toInt64) 0 9 μ28 (fun r33 μ32 => ((r33 = 0 → G12_letter_J70 v1 v2 v3 v4 v5 μ32 Q) ∧ (¬ (r33 = 0) → G12_in (v5.toInt64) 0 399 μ32 (fun r36 μ35 => ((r36 = 0 → G12_letter_J70 v1 v2 v3 v4 v5 μ35 Q) ∧ (¬ (r36 = 0) → G12_letter_J71 v1 v2 v3 v4 v5 1 μ35 Q)))))))))))))))))
def G12_namesOf_J28  (p1 : Int32) (p3 : Int32) (q0 : Int32) (q1 : Int32) (μ : MM) (K4 : Int32 × Int32 × MM → Prop) (Q : Int32 → MM → Prop) : Prop :=
  G12_flag q0 μ (fun r9 μ8 => Bd (q1 + r9) fun y10 => K4 (y10, (p3 + 1), μ8))
def G12_namesOf_L4  (p1 : Int32)  (Q : Int32 → MM → Prop) (K4 : Int32 × Int32 × MM → Prop) (x : Int32 × Int32 × MM) : Prop :=
  (((gI x.2.2 358 3) ≤ x.2.1 → Q x.1 x.2.2) ∧ (¬ ((gI x.2.2 358 3) ≤ x.2.1) → vp_in x.2.1 12 ∧ ((¬ (gI x.2.2 360 x.2.1.toNatClampNeg) = p1 → G12_namesOf_J28 p1 x.2.1 0 x.1 x.2.2 K4 Q) ∧ ((gI x.2.2 360 x.2.1.toNatClampNeg) = p1 → G12_namesOf_J28 p1 x.2.1 1 x.1 x.2.2 K4 Q))))
def G12_namesOf (v1 : Int32) (μ : MM) (Q : Int32 → MM → Prop) : Prop :=
  Lp (G12_namesOf_L4 v1 Q) (0, 0, μ)
def G12_freeName_J100  (p1 : Int32) (p2 : Int32) (p3 : Int32) (p4 : Int32) (p5 : Int32) (p6 : Int32) (μ : MM) (K6 : Int32 × Int32 × MM → Prop) (Q : Int32 → MM → Prop) : Prop :=
  G12_flag p6 μ (fun r13 μ12 => Bd (p4 + r13) fun y14 => K6 (y14, (p5 + 1), μ12))
def G12_freeName_J77  (p1 : Int32) (p2 : Int32) (p3 : Int32) (p4 : Int32) (p5 : Int32) (p7 : Int32) (μ : MM) (K6 : Int32 × Int32 × MM → Prop) (K36 : Int32 × Int32 × MM → Prop) (Q : Int32 → MM → Prop) : Prop :=
  K36 (0, (p7 + 1), μ)
def G12_freeName_L36  (p1 : Int32) (p2 : Int32) (p3 : Int32) (p4 : Int32) (p5 : Int32) (K6 : Int32 × Int32 × MM → Prop) (Q : Int32 → MM → Prop) (K36 : Int32 × Int32 × MM → Prop) (x : Int32 × Int32 × MM) : Prop :=
  (((gI x.2.2 358 12) ≤ x.2.1 → ((x.1 = 0 → G12_freeName_J100 p1 p2 p3 p4 p5 x.1 x.2.2 K6 Q) ∧ (¬ (x.1 = 0) → ((¬ p4 = p3 → G12_freeName_J100 p1 p2 p3 p4 p5 x.1 x.2.2 K6 Q) ∧ (p4 = p3 → Q p5 x.2.2))))) ∧ (¬ ((gI x.2.2 358 12) ≤ x.2.1) → ((x.1 = 0 → G12_freeName_J77 p1 p2 p3 p4 p5 x.2.1 x.2.2 K6 K36 Q) ∧ (¬ (x.1 = 0) → vp_in x.2.1 96 ∧ ((¬ (gI x.2.2 367 x.2.1.toNatClampNeg) = p1 → K36 (1, (x.2.1 + 1), x.2.2)) ∧ ((gI x.2.2 367 x.2.1.toNatClampNeg) = p1 → vp_in x.2.1 96 ∧ (((gI x.2.2 368 x.2.1.toNatClampNeg) = p5 → G12_freeName_J77 p1 p2 p3 p4 p5 x.2.1 x.2.2 K6 K36 Q) ∧ (¬ ((gI x.2.2 368 x.2.1.toNatClampNeg) = p5) → K36 (1, (x.2.1 + 1), x.2.2)))))))))
def G12_freeName_L6  (p1 : Int32) (p2 : Int32) (p3 : Int32)  (Q : Int32 → MM → Prop) (K6 : Int32 × Int32 × MM → Prop) (x : Int32 × Int32 × MM) : Prop :=
  (((gI x.2.2 358 3) ≤ x.2.1 → Q x.1 x.2.2) ∧ (¬ ((gI x.2.2 358 3) ≤ x.2.1) → vp_in x.2.1 12 ∧ ((¬ (gI x.2.2 360 x.2.1.toNatClampNeg) = p2 → Lp (G12_freeName_L36 p1 p2 p3 x.1 x.2.1 K6 Q) (0, 0, x.2.2)) ∧ ((gI x.2.2 360 x.2.1.toNatClampNeg) = p2 → Lp (G12_freeName_L36 p1 p2 p3 x.1 x.2.1 K6 Q) (1, 0, x.2.2)))))
def G12_freeName (v1 : Int32) (v2 : Int32) (v3 : Int32) (μ : MM) (Q : Int32 → MM → Prop) : Prop :=
  Lp (G12_freeName_L6 v1 v2 v3 Q) (0, 0, μ)
def G12_deal_J251  (p1 : Int32) (p2 : Int32) (p3 : Int32) (p6 : Int32) (p7 : Int32) (p9 : Int32) (p10 : Int32) (p12 : Int32) (p13 : Int32) (q0 : Int32) (q1 : Int32) (q2 : Int32) (μ : MM) (K167 : Int32 × MM → Prop) (Q : Int32 → MM → Prop) : Prop :=
  G12_lays q2 q1 q0 0 p12 p13 μ (fun μ68 => vp_in p10 2 ∧ vp_in p10 2 ∧ Bd (sI μ68 376 p10.toNatClampNeg ((gI μ68 376 p10.toNatClampNeg) + 1)) fun μ71 => K167 ((p9 + 1), μ71))
def G12_deal_J192  (p1 : Int32) (p2 : Int32) (p3 : Int32) (p6 : Int32) (p7 : Int32) (p9 : Int32) (q0 : Int32) (μ : MM) (K167 : Int32 × MM → Prop) (Q : Int32 → MM → Prop) : Prop :=
  G12_flag q0 μ (fun r55 μ54 => G12_freeName p1 r55 (-1) μ54 (fun r57 μ56 => G12_draws r57 μ56 (fun r59 μ58 => G12_freeName p1 r55 r59 μ58 (fun r61 μ60 => G12_draws 4 μ60 (fun r63 μ62 => G12_draws 400 μ62 (fun r65 μ64 => vp_in r55 2 ∧ ((¬ (gI μ64 376 r55.toNatClampNeg) = 0 → G12_deal_J251 p1 p2 p3 p6 p7 p9 r55 r63 r65 p3 r61 p1 μ64 K167 Q) ∧ ((gI μ64 376 r55.toNatClampNeg) = 0 → G12_deal_J251 p1 p2 p3 p6 p7 p9 r55 r63 r65 p2 r61 p1 μ64 K167 Q))))))))
def G12_deal_J187  (p1 : Int32) (p2 : Int32) (p3 : Int32) (p6 : Int32) (p7 : Int32) (p9 : Int32) (μ : MM) (K167 : Int32 × MM → Prop) (Q : Int32 → MM → Prop) : Prop :=
  G12_deal_J192 p1 p2 p3 p6 p7 p9 1 μ K167 Q
def G12_deal_L167  (p1 : Int32) (p2 : Int32) (p3 : Int32) (p6 : Int32) (p7 : Int32)  (Q : Int32 → MM → Prop) (K167 : Int32 × MM → Prop) (x : Int32 × MM) : Prop :=
  ((4 ≤ x.1 → Q (gI x.2 358 12) x.2) ∧ (¬ (4 ≤ x.1) → ((x.1 = p6 → G12_deal_J187 p1 p2 p3 p6 p7 x.1 x.2 K167 Q) ∧ (¬ (x.1 = p6) → ((¬ x.1 = p7 → G12_deal_J192 p1 p2 p3 p6 p7 x.1 0 x.2 K167 Q) ∧ (x.1 = p7 → G12_deal_J187 p1 p2 p3 p6 p7 x.1 x.2 K167 Q))))))
def G12_deal_J146  (p1 : Int32) (p2 : Int32) (p3 : Int32) (p6 : Int32) (q0 : Int32) (μ : MM)  (Q : Int32 → MM → Prop) : Prop :=
  Bd (sI μ 376 0 0) fun μ50 => Bd (sI μ50 376 1 0) fun μ51 => Lp (G12_deal_L167 p1 p2 p3 p6 q0 Q) (0, μ51)
def G12_deal_J117  (p1 : Int32) (p2 : Int32) (p3 : Int32) (p5 : Int32) (q0 : Int32) (μ : MM)  (Q : Int32 → MM → Prop) : Prop :=
  ((3 ≤ p5 → ((5 ≤ p5 → G12_deal_J146 p1 p2 p3 q0 3 μ Q) ∧ (¬ (5 ≤ p5) → G12_deal_J146 p1 p2 p3 q0 (p5 - 1) μ Q))) ∧ (¬ (3 ≤ p5) → G12_deal_J146 p1 p2 p3 q0 (p5 + 1) μ Q))
def G12_deal_J60  (p1 : Int32) (p2 : Int32) (p3 : Int32) (q0 : Int32) (μ : MM)  (Q : Int32 → MM → Prop) : Prop :=
  ((q0 = 0 → Q (-1) μ) ∧ (¬ (q0 = 0) → G12_lettersTo p1 μ (fun r41 μ40 => ((0 < r41 → Q (-1) μ40) ∧ (¬ (0 < r41) → ((((gI μ40 358 12) + 4) ≤ 96 → G12_draws 6 μ40 (fun r45 μ44 => ((3 ≤ r45 → ((5 ≤ r45 → G12_deal_J117 p1 p2 p3 r45 2 μ44 Q) ∧ (¬ (5 ≤ r45) → G12_deal_J117 p1 p2 p3 r45 1 μ44 Q))) ∧ (¬ (3 ≤ r45) → G12_deal_J117 p1 p2 p3 r45 0 μ44 Q)))) ∧ (¬ (((gI μ40 358 12) + 4) ≤ 96) → Q (-1) μ40)))))))
def G12_deal_J59  (p1 : Int32) (p2 : Int32) (p3 : Int32) (μ : MM)  (Q : Int32 → MM → Prop) : Prop :=
  G12_deal_J60 p1 p2 p3 0 μ Q
def G12_deal (v1 : Int32) (v2 : Int32) (v3 : Int32) (μ : MM) (Q : Int32 → MM → Prop) : Prop :=
  Bd (sI μ 358 0 0) fun μ35 => G12_isHouse v1 μ35 (fun r37 μ36 => ((r37 = 0 → G12_deal_J59 v1 v2 v3 μ36 Q) ∧ (¬ (r37 = 0) → G12_in (v2.toInt64) 0 99 μ36 (fun r74 μ73 => ((r74 = 0 → G12_deal_J59 v1 v2 v3 μ73 Q) ∧ (¬ (r74 = 0) → G12_in (v3.toInt64) 0 99 μ73 (fun r77 μ76 => ((r77 = 0 → G12_deal_J59 v1 v2 v3 μ76 Q) ∧ (¬ (r77 = 0) → G12_namesOf 0 μ76 (fun r80 μ79 => ((r80 ≤ 1 → G12_deal_J59 v1 v2 v3 μ79 Q) ∧ (¬ (r80 ≤ 1) → G12_namesOf 1 μ79 (fun r83 μ82 => ((r83 ≤ 1 → G12_deal_J59 v1 v2 v3 μ82 Q) ∧ (¬ (r83 ≤ 1) → G12_deal_J60 v1 v2 v3 1 μ82 Q)))))))))))))))
def G12_of_J25   (μ : MM)  (Q : Int32 → MM → Prop) : Prop :=
  G12_refuse μ (fun r26 μ25 => Q r26 μ25)
def G12_of (v1 : Int32) (v2 : Int32) (μ : MM) (Q : Int32 → MM → Prop) : Prop :=
  Bd (sI μ 358 0 0) fun μ21 => G12_isLetter v1 μ21 (fun r23 μ22 => ((r23 = 0 → G12_of_J25 μ22 Q) ∧ (¬ (r23 = 0) → G12_in (v2.toInt64) 0 8 μ22 (fun r28 μ27 => ((¬ r28 = 0 → ((v2 = 0 → vp_in v1 96 ∧ Q (gI μ27 367 v1.toNatClampNeg) μ27) ∧ (v2 = 1 → vp_in v1 96 ∧ Q (gI μ27 368 v1.toNatClampNeg) μ27) ∧ (v2 = 2 → vp_in v1 96 ∧ Q (gI μ27 369 v1.toNatClampNeg) μ27) ∧ (v2 = 3 → vp_in v1 96 ∧ Q (gI μ27 370 v1.toNatClampNeg) μ27) ∧ (v2 = 4 → vp_in v1 96 ∧ Q (gI μ27 371 v1.toNatClampNeg) μ27) ∧ (v2 = 5 → vp_in v1 96 ∧ Q (gI μ27 372 v1.toNatClampNeg) μ27) ∧ (v2 = 6 → vp_in v1 96 ∧ G12_flag (gI μ27 373 v1.toNatClampNeg) μ27 (fun r45 μ44 => Q r45 μ44)) ∧ (v2 = 7 → vp_in v1 96 ∧ G12_flag (gI μ27 374 v1.toNatClampNeg) μ27 (fun r49 μ48 => Q r49 μ48)) ∧ (¬ v2 = 0 → ¬ v2 = 1 → ¬ v2 = 2 → ¬ v2 = 3 → ¬ v2 = 4 → ¬ v2 = 5 → ¬ v2 = 6 → ¬ v2 = 7 → vp_in v1 96 ∧ Q (gI μ27 375 v1.toNatClampNeg) μ27))) ∧ (r28 = 0 → G12_of_J25 μ27 Q))))))
def G12_sign_L18  (p1 : Int32)  (Q : Int32 → MM → Prop) (K18 : Int32 × MM → Prop) (x : Int32 × MM) : Prop :=
  ((4 ≤ x.1 → Bd (sI x.2 358 28 ((gI x.2 358 28) + 4)) fun μ8 => Q (gI μ8 358 28) μ8) ∧ (¬ (4 ≤ x.1) → vp_in ((gI x.2 358 28) + x.1) 60 ∧ Bd (sI x.2 380 (((gI x.2 358 28) + x.1).toNatClampNeg) ((p1 >>> ((24 - (8 * x.1)) &&& 31)) &&& 255)) fun μ10 => K18 ((x.1 + 1), μ10)))
def G12_sign (v1 : Int32) (μ : MM) (Q : Int32 → MM → Prop) : Prop :=
  Bd (sI μ 358 0 0) fun μ5 => (((gI μ5 358 28) ≤ 56 → Lp (G12_sign_L18 v1 Q) (0, μ5)) ∧ (¬ ((gI μ5 358 28) ≤ 56) → Q (-1) μ5))
def G12_end (v1 : Int32) (μ : MM) (Q : Int32 → MM → Prop) : Prop :=
  Bd (sI μ 358 0 0) fun μ5 => G12_in (v1.toInt64) 0 ((gI μ5 358 28).toInt64) μ5 (fun r7 μ6 => ((¬ r7 = 0 → Bd (sI μ6 358 28 v1) fun μ9 => Q 1 μ9) ∧ (r7 = 0 → Q 0 μ6)))
def G12_isDigit_J37   (μ : MM)  (Q : Int32 → MM → Prop) : Prop :=
  Q 0 μ
def G12_isDigit  (μ : MM) (Q : Int32 → MM → Prop) : Prop :=
  (((gI μ 358 30) ≤ (gI μ 358 29) → G12_isDigit_J37 μ Q) ∧ (¬ ((gI μ 358 30) ≤ (gI μ 358 29)) → vp_in (gI μ 358 29) 60 ∧ G12_in ((gI μ 380 ((gI μ 358 29).toNatClampNeg)).toInt64) 48 57 μ (fun r7 μ6 => ((r7 = 0 → G12_isDigit_J37 μ6 Q) ∧ (¬ (r7 = 0) → Q 1 μ6)))))
def GJ1_charAt_3b067 (a0 : Nat) (v1 : Int32) (μ : MM) (Q : Int32 → MM → Prop) : Prop :=
  GJ0_checkIndex_df160 v1 (Int32.ofNat (lenJS.getD a0 0)) μ (fun μ3 => vp_in v1 (lenJS.getD a0 0) ∧ narrow .char (.int (((((bytJS.getD a0 []).getD v1.toNatClampNeg 0) &&& 255).toUInt32 % 65536).toInt32)) = .int (((((bytJS.getD a0 []).getD v1.toNatClampNeg 0) &&& 255).toUInt32 % 65536).toInt32) ∧ Q (((((bytJS.getD a0 []).getD v1.toNatClampNeg 0) &&& 255).toUInt32 % 65536).toInt32) μ3)
def GJ0_charAt_5068e (t : Nat) (v1 : Int32) (μ : MM) (Q : Int32 → MM → Prop) : Prop :=
  GJ1_charAt_3b067 t v1 μ (fun r5 μ4 => narrow .char (.int r5) = .int r5 ∧ Q r5 μ4)
def G12_among_L2 (a1 : Nat)   (Q : Int32 → MM → Prop) (K2 : Int32 × MM → Prop) (x : Int32 × MM) : Prop :=
  GJ0_length_8abf5 a1 x.2 (fun r7 μ6 => ((r7 ≤ x.1 → Q (-1) μ6) ∧ (¬ (r7 ≤ x.1) → (((gI μ6 358 30) ≤ (gI μ6 358 29) → Q (-1) μ6) ∧ (¬ ((gI μ6 358 30) ≤ (gI μ6 358 29)) → GJ0_charAt_5068e a1 x.1 μ6 (fun r11 μ10 => vp_in (gI μ10 358 29) 60 ∧ ((¬ r11 = (gI μ10 380 ((gI μ10 358 29).toNatClampNeg)) → K2 ((x.1 + 1), μ10)) ∧ (r11 = (gI μ10 380 ((gI μ10 358 29).toNatClampNeg)) → Q x.1 μ10))))))))
def G12_among (a1 : Nat) (μ : MM) (Q : Int32 → MM → Prop) : Prop :=
  Lp (G12_among_L2 a1 Q) (0, μ)
def G12_marks (v1 : Int32) (μ : MM) (Q : MM → Prop) : Prop :=
  vp_in (576 + (gI μ 378 12)) 624 ∧ Bd (sI μ 377 ((576 + (gI μ 378 12)).toNatClampNeg) v1) fun μ5 => Bd (sI μ5 378 12 ((gI μ5 378 12) + 1)) fun μ6 => Q μ6
def G12_thing_J110 (rAh : MM → (Int32 → MM → Prop) → Prop) (rRa : Int32 → MM → (Int32 → MM → Prop) → Prop) (rTh : MM → (Int32 → MM → Prop) → Prop)  (q0 : Int32) (q1 : Int32) (μ : MM)  (Q : Int32 → MM → Prop) : Prop :=
  G12_marks (q1 + q0) μ (fun μ57 => Bd (sI μ57 358 29 ((gI μ57 358 29) + 1)) fun μ58 => Q 1 μ58)
def G12_thing_J109 (rAh : MM → (Int32 → MM → Prop) → Prop) (rRa : Int32 → MM → (Int32 → MM → Prop) → Prop) (rTh : MM → (Int32 → MM → Prop) → Prop)  (p1 : Int32) (q0 : Int32) (μ : MM)  (Q : Int32 → MM → Prop) : Prop :=
  G12_thing_J110 rAh rRa rTh p1 q0 μ Q
def G12_thing_J79 (rAh : MM → (Int32 → MM → Prop) → Prop) (rRa : Int32 → MM → (Int32 → MM → Prop) → Prop) (rTh : MM → (Int32 → MM → Prop) → Prop)  (q0 : Nat) (μ : MM)  (Q : Int32 → MM → Prop) : Prop :=
  G12_among q0 μ (fun r40 μ39 => ((r40 < 0 → G12_among 7 μ39 (fun r43 μ42 => ((r43 < 0 → Q 0 μ42) ∧ (¬ (r43 < 0) → ((¬ (gI μ42 358 31) = 5 → Bd (sI μ42 358 29 ((gI μ42 358 29) + 1)) fun μ46 => Bd (sI μ46 358 31 ((gI μ46 358 31) + 1)) fun μ47 => rRa 0 μ47 (fun r49 μ48 => ((r49 = 0 → Q 0 μ48) ∧ (¬ (r49 = 0) → G12_among 8 μ48 (fun r52 μ51 => ((0 ≤ r52 → Bd (sI μ51 358 29 ((gI μ51 358 29) + 1)) fun μ54 => Bd (sI μ54 358 31 ((gI μ54 358 31) - 1)) fun μ55 => Q 1 μ55) ∧ (¬ (0 ≤ r52) → Q 0 μ51))))))) ∧ ((gI μ42 358 31) = 5 → Q 0 μ42)))))) ∧ (¬ (r40 < 0) → ((¬ (gI μ39 358 32) = 0 → G12_thing_J109 rAh rRa rTh r40 1000 μ39 Q) ∧ ((gI μ39 358 32) = 0 → ((¬ r40 = 10 → G12_thing_J109 rAh rRa rTh r40 1000 μ39 Q) ∧ (r40 = 10 → G12_thing_J110 rAh rRa rTh 13 1000 μ39 Q)))))))
def G12_thing_J57 (rAh : MM → (Int32 → MM → Prop) → Prop) (rRa : Int32 → MM → (Int32 → MM → Prop) → Prop) (rTh : MM → (Int32 → MM → Prop) → Prop)  (p1 : Int32) (μ : MM)  (Q : Int32 → MM → Prop) : Prop :=
  G12_marks p1 μ (fun μ61 => Q 1 μ61)
def G12_thing_L11 (rAh : MM → (Int32 → MM → Prop) → Prop) (rRa : Int32 → MM → (Int32 → MM → Prop) → Prop) (rTh : MM → (Int32 → MM → Prop) → Prop)    (Q : Int32 → MM → Prop) (K11 : Int32 × Int32 × MM → Prop) (x : Int32 × Int32 × MM) : Prop :=
  ((3 ≤ x.2.1 → G12_thing_J57 rAh rRa rTh x.1 x.2.2 Q) ∧ (¬ (3 ≤ x.2.1) → G12_isDigit x.2.2 (fun r63 μ62 => ((r63 = 0 → G12_thing_J57 rAh rRa rTh x.1 μ62 Q) ∧ (¬ (r63 = 0) → vp_in (gI μ62 358 29) 60 ∧ Bd (((10 * x.1) + (gI μ62 380 ((gI μ62 358 29).toNatClampNeg))) - 48) fun y66 => Bd (sI μ62 358 29 ((gI μ62 358 29) + 1)) fun μ67 => K11 (y66, (x.2.1 + 1), μ67))))))
def G12_thing (rAh : MM → (Int32 → MM → Prop) → Prop) (rRa : Int32 → MM → (Int32 → MM → Prop) → Prop) (rTh : MM → (Int32 → MM → Prop) → Prop)  (μ : MM) (Q : Int32 → MM → Prop) : Prop :=
  G12_isDigit μ (fun r36 μ35 => ((r36 = 0 → (((gI μ35 358 32) = 0 → G12_thing_J79 rAh rRa rTh 6 μ35 Q) ∧ (¬ ((gI μ35 358 32) = 0) → G12_thing_J79 rAh rRa rTh 5 μ35 Q))) ∧ (¬ (r36 = 0) → Lp (G12_thing_L11 rAh rRa rTh Q) (0, 0, μ35))))
def G12_ahead_J50 (rAh : MM → (Int32 → MM → Prop) → Prop) (rRa : Int32 → MM → (Int32 → MM → Prop) → Prop) (rTh : MM → (Int32 → MM → Prop) → Prop)  (p2 : Int32) (q0 : Int32) (q1 : Int32) (μ : MM)  (Q : Int32 → MM → Prop) : Prop :=
  G12_marks (q1 + q0) μ (fun μ17 => bo p2 ∧ Q p2 μ17)
def G12_ahead (rAh : MM → (Int32 → MM → Prop) → Prop) (rRa : Int32 → MM → (Int32 → MM → Prop) → Prop) (rTh : MM → (Int32 → MM → Prop) → Prop)  (μ : MM) (Q : Int32 → MM → Prop) : Prop :=
  G12_among 4 μ (fun r10 μ9 => ((0 ≤ r10 → Bd (sI μ9 358 29 ((gI μ9 358 29) + 1)) fun μ12 => rAh μ12 (fun r14 μ13 => ((r14 = 0 → bo r14 ∧ Q r14 μ13) ∧ (¬ (r14 = 0) → ((¬ r10 = 0 → G12_ahead_J50 rAh rRa rTh r14 126 2000 μ13 Q) ∧ (r10 = 0 → G12_ahead_J50 rAh rRa rTh r14 33 2000 μ13 Q)))))) ∧ (¬ (0 ≤ r10) → rTh μ9 (fun r19 μ18 => bo r19 ∧ Q r19 μ18))))
def G12_ranked_J123 (rAh : MM → (Int32 → MM → Prop) → Prop) (rRa : Int32 → MM → (Int32 → MM → Prop) → Prop) (rTh : MM → (Int32 → MM → Prop) → Prop)  (p1 : Int32) (p2 : Nat) (p3 : Int32) (μ : MM) (K63 : Int32 × Int32 × MM → Prop) (Q : Int32 → MM → Prop) : Prop :=
  ((p1 = 2 → K63 (p3, 0, μ)) ∧ (¬ (p1 = 2) → K63 (p3, 1, μ)))
def G12_ranked_L63 (rAh : MM → (Int32 → MM → Prop) → Prop) (rRa : Int32 → MM → (Int32 → MM → Prop) → Prop) (rTh : MM → (Int32 → MM → Prop) → Prop)  (p1 : Int32) (p2 : Nat)  (Q : Int32 → MM → Prop) (K63 : Int32 × Int32 × MM → Prop) (x : Int32 × Int32 × MM) : Prop :=
  ((x.1 = 0 → bo x.1 ∧ Q x.1 x.2.2) ∧ (¬ (x.1 = 0) → ((x.2.1 = 0 → bo x.1 ∧ Q x.1 x.2.2) ∧ (¬ (x.2.1 = 0) → G12_among p2 x.2.2 (fun r33 μ32 => ((r33 < 0 → bo x.1 ∧ Q x.1 μ32) ∧ (¬ (r33 < 0) → vp_in (gI μ32 358 29) 60 ∧ Bd (gI μ32 380 ((gI μ32 358 29).toNatClampNeg)) fun y36 => Bd (sI μ32 358 29 ((gI μ32 358 29) + 1)) fun μ37 => rRa (p1 + 1) μ37 (fun r39 μ38 => ((r39 = 0 → G12_ranked_J123 rAh rRa rTh p1 p2 r39 μ38 K63 Q) ∧ (¬ (r39 = 0) → G12_marks (2000 + y36) μ38 (fun μ42 => G12_ranked_J123 rAh rRa rTh p1 p2 r39 μ42 K63 Q)))))))))))
def G12_ranked_J51 (rAh : MM → (Int32 → MM → Prop) → Prop) (rRa : Int32 → MM → (Int32 → MM → Prop) → Prop) (rTh : MM → (Int32 → MM → Prop) → Prop)  (p1 : Int32) (q0 : Nat) (μ : MM)  (Q : Int32 → MM → Prop) : Prop :=
  rRa (p1 + 1) μ (fun r29 μ28 => Lp (G12_ranked_L63 rAh rRa rTh p1 q0 Q) (r29, 1, μ28))
def G12_ranked (rAh : MM → (Int32 → MM → Prop) → Prop) (rRa : Int32 → MM → (Int32 → MM → Prop) → Prop) (rTh : MM → (Int32 → MM → Prop) → Prop) (v1 : Int32) (μ : MM) (Q : Int32 → MM → Prop) : Prop :=
  ((¬ v1 = 5 → ((¬ v1 = 0 → ((¬ v1 = 1 → ((¬ v1 = 2 → ((¬ v1 = 3 → G12_ranked_J51 rAh rRa rTh v1 13 μ Q) ∧ (v1 = 3 → G12_ranked_J51 rAh rRa rTh v1 12 μ Q))) ∧ (v1 = 2 → G12_ranked_J51 rAh rRa rTh v1 11 μ Q))) ∧ (v1 = 1 → G12_ranked_J51 rAh rRa rTh v1 10 μ Q))) ∧ (v1 = 0 → G12_ranked_J51 rAh rRa rTh v1 9 μ Q))) ∧ (v1 = 5 → rAh μ (fun r44 μ43 => bo r44 ∧ Q r44 μ43)))
def G12_tie : Nat → (Int32 → MM → (Int32 → MM → Prop) → Prop) × (MM → (Int32 → MM → Prop) → Prop) × (MM → (Int32 → MM → Prop) → Prop)
  | 0 => (fun _ _ _ => False, fun _ _ => False, fun _ _ => False)
  | n + 1 => (G12_ranked (G12_tie n).2.1 (G12_tie n).1 (G12_tie n).2.2, G12_ahead (G12_tie n).2.1 (G12_tie n).1 (G12_tie n).2.2, G12_thing (G12_tie n).2.1 (G12_tie n).1 (G12_tie n).2.2)
def G12_rankedT (v1 : Int32) (μ : MM) (Q : Int32 → MM → Prop) : Prop := (G12_tie 120).1 v1 μ Q
def G12_reads_L131  (p1 : Int32)  (Q : Int32 → MM → Prop) (K131 : Int32 × MM → Prop) (x : Int32 × MM) : Prop :=
  ((48 ≤ x.1 → Q 0 x.2) ∧ (¬ (48 ≤ x.1) → vp_in (576 + x.1) 624 ∧ vp_in ((48 * p1) + x.1) 624 ∧ Bd (sI x.2 377 (((48 * p1) + x.1).toNatClampNeg) (gI x.2 377 ((576 + x.1).toNatClampNeg))) fun μ35 => K131 ((x.1 + 1), μ35)))
def G12_reads_J103  (p1 : Int32) (p5 : Int32) (μ : MM)  (Q : Int32 → MM → Prop) : Prop :=
  ((¬ p5 = 0 → vp_in p1 13 ∧ Bd (sI μ 378 p1.toNatClampNeg (gI μ 378 12)) fun μ31 => Lp (G12_reads_L131 p1 Q) (0, μ31)) ∧ (p5 = 0 → Q ((-1) - (gI μ 358 29)) μ))
def G12_reads_J78  (p1 : Int32) (p3 : Int32) (q0 : Int32) (μ : MM)  (Q : Int32 → MM → Prop) : Prop :=
  ((p3 ≤ 40 → G12_reads_J103 p1 q0 μ Q) ∧ (¬ (p3 ≤ 40) → ((¬ q0 = 0 → Q (-41) μ) ∧ (q0 = 0 → (((gI μ 358 29) < 40 → G12_reads_J103 p1 q0 μ Q) ∧ (¬ ((gI μ 358 29) < 40) → Q (-41) μ))))))
def G12_reads_J77  (p1 : Int32) (p3 : Int32) (μ : MM)  (Q : Int32 → MM → Prop) : Prop :=
  G12_reads_J78 p1 p3 0 μ Q
def G12_reads (v1 : Int32) (v2 : Int32) (μ : MM) (Q : Int32 → MM → Prop) : Prop :=
  Bd (gI μ 358 28) fun y16 => Bd (sI μ 358 28 0) fun μ17 => Bd (sI μ17 358 29 0) fun μ18 => Bd (sI μ18 358 31 0) fun μ19 => Bd (sI μ19 358 30 (if 40 < y16 then 40 else y16)) fun μ20 => bo v2 ∧ Bd (sI μ20 358 32 v2) fun μ22 => Bd (sI μ22 378 12 0) fun μ23 => ((0 ≤ v1 → G12_rankedT 0 μ23 (fun r26 μ25 => ((r26 = 0 → G12_reads_J77 v1 y16 μ25 Q) ∧ (¬ (r26 = 0) → ((¬ (gI μ25 358 29) = (gI μ25 358 30) → G12_reads_J77 v1 y16 μ25 Q) ∧ ((gI μ25 358 29) = (gI μ25 358 30) → G12_reads_J78 v1 y16 1 μ25 Q)))))) ∧ (¬ (0 ≤ v1) → Q (-100) μ23))
def G12_law_J23  (q0 : Int32) (μ : MM)  (Q : Int32 → MM → Prop) : Prop :=
  G12_reads q0 1 μ (fun r11 μ10 => Q r11 μ10)
def G12_law (v1 : Int32) (μ : MM) (Q : Int32 → MM → Prop) : Prop :=
  Bd (sI μ 358 0 0) fun μ6 => G12_in (v1.toInt64) 0 5 μ6 (fun r8 μ7 => ((r8 = 0 → G12_law_J23 (-1) μ7 Q) ∧ (¬ (r8 = 0) → G12_law_J23 v1 μ7 Q)))
def G12_filter_J26  (q0 : Int32) (μ : MM)  (Q : Int32 → MM → Prop) : Prop :=
  G12_reads q0 0 μ (fun r11 μ10 => Q r11 μ10)
def G12_filter (v1 : Int32) (μ : MM) (Q : Int32 → MM → Prop) : Prop :=
  Bd (sI μ 358 0 0) fun μ6 => G12_in (v1.toInt64) 0 5 μ6 (fun r8 μ7 => ((r8 = 0 → G12_filter_J26 (-1) μ7 Q) ∧ (¬ (r8 = 0) → G12_filter_J26 (6 + v1) μ7 Q)))
def G12_countsTill_L17  (p1 : Int32)  (Q : MM → Prop) (K17 : Int32 × MM → Prop) (x : Int32 × MM) : Prop :=
  (((gI x.2 358 12) ≤ x.1 → Q x.2) ∧ (¬ ((gI x.2 358 12) ≤ x.1) → vp_in x.1 96 ∧ ((¬ (gI x.2 367 x.1.toNatClampNeg) = p1 → K17 ((x.1 + 1), x.2)) ∧ ((gI x.2 367 x.1.toNatClampNeg) = p1 → vp_in x.1 96 ∧ (((gI x.2 373 x.1.toNatClampNeg) = 0 → K17 ((x.1 + 1), x.2)) ∧ (¬ ((gI x.2 373 x.1.toNatClampNeg) = 0) → vp_in x.1 96 ∧ G12_flag (gI x.2 374 x.1.toNatClampNeg) x.2 (fun r23 μ22 => Bd (sI μ22 358 33 ((gI x.2 358 33) + r23)) fun μ24 => Bd (sI μ24 358 34 ((gI μ24 358 34) + 1)) fun μ25 => vp_in x.1 96 ∧ Bd (sI μ25 358 35 (if (gI μ25 358 35) < (gI μ25 369 x.1.toNatClampNeg) then (gI μ25 369 x.1.toNatClampNeg) else (gI μ25 358 35))) fun μ27 => K17 ((x.1 + 1), μ27))))))))
def G12_countsTill (v1 : Int32) (μ : MM) (Q : MM → Prop) : Prop :=
  Bd (sI μ 358 33 0) fun μ13 => Bd (sI μ13 358 34 0) fun μ14 => Bd (sI μ14 358 35 0) fun μ15 => Lp (G12_countsTill_L17 v1 Q) (0, μ15)
def G12_countsNone  (μ : MM) (Q : MM → Prop) : Prop :=
  Bd (sI μ 358 33 0) fun μ4 => Bd (sI μ4 358 34 0) fun μ5 => Bd (sI μ5 358 35 0) fun μ6 => Q μ6
def G12_valueOf (v1 : Int32) (v2 : Int32) (μ : MM) (Q : Int32 → MM → Prop) : Prop :=
  vp_in v2 96 ∧ Bd (gI μ 368 v2.toNatClampNeg) fun y19 => Bd (v1 - 1000) fun y20 => ((y20 = 0 → vp_in v2 96 ∧ Q (gI μ 369 v2.toNatClampNeg) μ) ∧ (y20 = 1 → vp_in v2 96 ∧ Q (gI μ 370 v2.toNatClampNeg) μ) ∧ (y20 = 2 → vp_in v2 96 ∧ Q (gI μ 371 v2.toNatClampNeg) μ) ∧ (y20 = 3 → vp_in v2 96 ∧ Q (gI μ 372 v2.toNatClampNeg) μ) ∧ (y20 = 4 → vp_in y19 12 ∧ Q (gI μ 360 y19.toNatClampNeg) μ) ∧ (y20 = 5 → vp_in y19 12 ∧ Q (gI μ 361 y19.toNatClampNeg) μ) ∧ (y20 = 6 → vp_in y19 12 ∧ Q (gI μ 362 y19.toNatClampNeg) μ) ∧ (y20 = 7 → vp_in y19 12 ∧ Q (gI μ 363 y19.toNatClampNeg) μ) ∧ (y20 = 8 → vp_in v2 96 ∧ vp_in (gI μ 367 v2.toNatClampNeg) 24 ∧ Q (gI μ 364 ((gI μ 367 v2.toNatClampNeg).toNatClampNeg)) μ) ∧ (y20 = 9 → vp_in v2 96 ∧ vp_in (gI μ 367 v2.toNatClampNeg) 24 ∧ Q (gI μ 365 ((gI μ 367 v2.toNatClampNeg).toNatClampNeg)) μ) ∧ (y20 = 10 → Q (gI μ 358 33) μ) ∧ (y20 = 11 → Q (gI μ 358 34) μ) ∧ (y20 = 12 → Q (gI μ 358 35) μ) ∧ (¬ y20 = 0 → ¬ y20 = 1 → ¬ y20 = 2 → ¬ y20 = 3 → ¬ y20 = 4 → ¬ y20 = 5 → ¬ y20 = 6 → ¬ y20 = 7 → ¬ y20 = 8 → ¬ y20 = 9 → ¬ y20 = 10 → ¬ y20 = 11 → ¬ y20 = 12 → vp_in v2 96 ∧ G12_flag (gI μ 374 v2.toNatClampNeg) μ (fun r48 μ47 => Q r48 μ47)))
def G12_acted_J183  (q0 : Int32) (μ : MM)  (Q : Int32 → MM → Prop) : Prop :=
  G12_flag q0 μ (fun r14 μ13 => Q r14 μ13)
def G12_acted_J182   (μ : MM)  (Q : Int32 → MM → Prop) : Prop :=
  G12_acted_J183 0 μ Q
def G12_acted_J138  (q0 : Int32) (μ : MM)  (Q : Int32 → MM → Prop) : Prop :=
  G12_flag q0 μ (fun r22 μ21 => Q r22 μ21)
def G12_acted_J166  (q0 : Int32) (μ : MM)  (Q : Int32 → MM → Prop) : Prop :=
  G12_flag q0 μ (fun r26 μ25 => Q r26 μ25)
def G12_acted_J152  (q0 : Int32) (μ : MM)  (Q : Int32 → MM → Prop) : Prop :=
  G12_flag q0 μ (fun r30 μ29 => Q r30 μ29)
def G12_acted_J200  (q0 : Int32) (μ : MM)  (Q : Int32 → MM → Prop) : Prop :=
  G12_flag q0 μ (fun r33 μ32 => Q r33 μ32)
def G12_acted_J195   (μ : MM)  (Q : Int32 → MM → Prop) : Prop :=
  G12_acted_J200 1 μ Q
def G12_acted (v0 : Int32) (v1 : Int32) (v2 : Int32) (μ : MM) (Q : Int32 → MM → Prop) : Prop :=
  ((v0 = 38 → ((v1 = 0 → G12_acted_J182 μ Q) ∧ (¬ (v1 = 0) → ((v2 = 0 → G12_acted_J182 μ Q) ∧ (¬ (v2 = 0) → G12_acted_J183 1 μ Q))))) ∧ (v0 = 42 → Q (v1 * v2) μ) ∧ (v0 = 43 → Q (v1 + v2) μ) ∧ (v0 = 45 → Q (v1 - v2) μ) ∧ (v0 = 60 → ((v2 ≤ v1 → G12_acted_J138 0 μ Q) ∧ (¬ (v2 ≤ v1) → G12_acted_J138 1 μ Q))) ∧ (v0 = 61 → ((¬ v1 = v2 → G12_acted_J166 0 μ Q) ∧ (v1 = v2 → G12_acted_J166 1 μ Q))) ∧ (v0 = 62 → ((v1 ≤ v2 → G12_acted_J152 0 μ Q) ∧ (¬ (v1 ≤ v2) → G12_acted_J152 1 μ Q))) ∧ (¬ v0 = 38 → ¬ v0 = 42 → ¬ v0 = 43 → ¬ v0 = 45 → ¬ v0 = 60 → ¬ v0 = 61 → ¬ v0 = 62 → ((¬ v1 = 0 → G12_acted_J195 μ Q) ∧ (v1 = 0 → ((v2 = 0 → G12_acted_J200 0 μ Q) ∧ (¬ (v2 = 0) → G12_acted_J195 μ Q))))))
def G12_worked_J101  (p1 : Int32) (p2 : Int32) (p3 : Int32) (p4 : Int32) (q0 : Int32) (q1 : Int32) (μ : MM) (K5 : Int32 × Int32 × MM → Prop) (Q : Int32 → MM → Prop) : Prop :=
  G12_flag q0 μ (fun r43 μ42 => vp_in q1 48 ∧ Bd (sI μ42 379 q1.toNatClampNeg r43) fun μ45 => K5 (p3, (p4 + 1), μ45))
def G12_worked_L5  (p1 : Int32) (p2 : Int32)  (Q : Int32 → MM → Prop) (K5 : Int32 × Int32 × MM → Prop) (x : Int32 × Int32 × MM) : Prop :=
  vp_in p1 13 ∧ (((gI x.2.2 378 p1.toNatClampNeg) ≤ x.2.1 → Q (gI x.2.2 379 0) x.2.2) ∧ (¬ ((gI x.2.2 378 p1.toNatClampNeg) ≤ x.2.1) → vp_in ((48 * p1) + x.2.1) 624 ∧ Bd (gI x.2.2 377 (((48 * p1) + x.2.1).toNatClampNeg)) fun y27 => ((2000 ≤ y27 → ((¬ y27 = 2033 → ((¬ y27 = 2126 → vp_in ((x.1 + (-1)) - 1) 48 ∧ vp_in (x.1 + (-1)) 48 ∧ G12_acted (y27 - 2000) (gI x.2.2 379 (((x.1 + (-1)) - 1).toNatClampNeg)) (gI x.2.2 379 ((x.1 + (-1)).toNatClampNeg)) x.2.2 (fun r34 μ33 => vp_in ((x.1 + (-1)) - 1) 48 ∧ Bd (sI μ33 379 (((x.1 + (-1)) - 1).toNatClampNeg) r34) fun μ36 => K5 ((x.1 + (-1)), (x.2.1 + 1), μ36))) ∧ (y27 = 2126 → vp_in (x.1 - 1) 48 ∧ vp_in (x.1 - 1) 48 ∧ Bd (sI x.2.2 379 ((x.1 - 1).toNatClampNeg) (-(gI x.2.2 379 ((x.1 - 1).toNatClampNeg)))) fun μ39 => K5 (x.1, (x.2.1 + 1), μ39)))) ∧ (y27 = 2033 → vp_in (x.1 - 1) 48 ∧ ((¬ (gI x.2.2 379 ((x.1 - 1).toNatClampNeg)) = 0 → G12_worked_J101 p1 p2 x.1 x.2.1 0 (x.1 - 1) x.2.2 K5 Q) ∧ ((gI x.2.2 379 ((x.1 - 1).toNatClampNeg)) = 0 → G12_worked_J101 p1 p2 x.1 x.2.1 1 (x.1 - 1) x.2.2 K5 Q))))) ∧ (¬ (2000 ≤ y27) → ((1000 ≤ y27 → G12_valueOf y27 p2 x.2.2 (fun r48 μ47 => vp_in x.1 48 ∧ Bd (sI μ47 379 x.1.toNatClampNeg r48) fun μ50 => K5 ((x.1 + 1), (x.2.1 + 1), μ50))) ∧ (¬ (1000 ≤ y27) → vp_in x.1 48 ∧ Bd (sI x.2.2 379 x.1.toNatClampNeg y27) fun μ52 => K5 ((x.1 + 1), (x.2.1 + 1), μ52)))))))
def G12_worked (v1 : Int32) (v2 : Int32) (μ : MM) (Q : Int32 → MM → Prop) : Prop :=
  Lp (G12_worked_L5 v1 v2 Q) (0, 0, μ)
def G12_isTold_J25   (μ : MM)  (Q : Int32 → MM → Prop) : Prop :=
  Q 0 μ
def G12_isTold (v1 : Int32) (μ : MM) (Q : Int32 → MM → Prop) : Prop :=
  G12_in (v1.toInt64) 0 5 μ (fun r5 μ4 => ((r5 = 0 → G12_isTold_J25 μ4 Q) ∧ (¬ (r5 = 0) → vp_in v1 13 ∧ (((gI μ4 378 v1.toNatClampNeg) ≤ 0 → G12_isTold_J25 μ4 Q) ∧ (¬ ((gI μ4 378 v1.toNatClampNeg) ≤ 0) → Q 1 μ4)))))
def G12_value_J21   (μ : MM)  (Q : Int32 → MM → Prop) : Prop :=
  G12_refuse μ (fun r17 μ16 => Q r17 μ16)
def G12_value (v1 : Int32) (v2 : Int32) (μ : MM) (Q : Int32 → MM → Prop) : Prop :=
  Bd (sI μ 358 0 0) fun μ12 => G12_isLetter v2 μ12 (fun r14 μ13 => ((r14 = 0 → G12_value_J21 μ13 Q) ∧ (¬ (r14 = 0) → G12_isTold v1 μ13 (fun r19 μ18 => ((¬ r19 = 0 → vp_in v2 96 ∧ G12_countsTill (gI μ18 367 v2.toNatClampNeg) μ18 (fun μ22 => G12_worked v1 v2 μ22 (fun r24 μ23 => Q r24 μ23))) ∧ (r19 = 0 → G12_value_J21 μ18 Q))))))
def G12_read_J164  (p1 : Int32) (p2 : Int32) (p3 : Int32) (p4 : Int32) (q0 : Int32) (q1 : Int32) (μ : MM) (K23 : Int32 × Int32 × MM → Prop) (Q : Int32 → MM → Prop) : Prop :=
  vp_in q1 96 ∧ Bd (sI μ 374 q1.toNatClampNeg (vp_nar .boolean q0)) fun μ42 => vp_in p4 96 ∧ Bd (sI μ42 373 p4.toNatClampNeg (vp_nar .boolean 1)) fun μ44 => vp_in p4 96 ∧ G12_flag (gI μ44 374 p4.toNatClampNeg) μ44 (fun r47 μ46 => Bd (p2 + r47) fun y48 => K23 (y48, (p3 + 1), μ46))
def G12_read_J163  (p1 : Int32) (p2 : Int32) (p3 : Int32) (p4 : Int32) (q0 : Int32) (μ : MM) (K23 : Int32 × Int32 × MM → Prop) (Q : Int32 → MM → Prop) : Prop :=
  G12_read_J164 p1 p2 p3 p4 0 q0 μ K23 Q
def G12_read_J80  (p1 : Int32) (p2 : Int32) (p3 : Int32) (p4 : Int32) (p5 : Int32) (μ : MM) (K23 : Int32 × Int32 × MM → Prop) (K34 : Int32 × Int32 × MM → Prop) (Q : Int32 → MM → Prop) : Prop :=
  K34 (p4, (p5 + 1), μ)
def G12_read_L34  (p1 : Int32) (p2 : Int32) (p3 : Int32) (K23 : Int32 × Int32 × MM → Prop) (Q : Int32 → MM → Prop) (K34 : Int32 × Int32 × MM → Prop) (x : Int32 × Int32 × MM) : Prop :=
  (((gI x.2.2 358 12) ≤ x.2.1 → ((0 ≤ x.1 → G12_draws 100 x.2.2 (fun r33 μ32 => vp_in x.1 96 ∧ vp_in (gI μ32 367 x.1.toNatClampNeg) 24 ∧ Bd (gI μ32 366 ((gI μ32 367 x.1.toNatClampNeg).toNatClampNeg)) fun y36 => vp_in x.1 96 ∧ G12_countsTill (gI μ32 367 x.1.toNatClampNeg) μ32 (fun μ38 => vp_in y36 13 ∧ (((gI μ38 378 y36.toNatClampNeg) ≤ 0 → G12_read_J163 p1 p2 p3 x.1 x.1 μ38 K23 Q) ∧ (¬ ((gI μ38 378 y36.toNatClampNeg) ≤ 0) → G12_worked y36 x.1 μ38 (fun r50 μ49 => ((r50 ≤ r33 → G12_read_J163 p1 p2 p3 x.1 x.1 μ49 K23 Q) ∧ (¬ (r50 ≤ r33) → G12_read_J164 p1 p2 p3 x.1 1 x.1 μ49 K23 Q)))))))) ∧ (¬ (0 ≤ x.1) → Q p2 x.2.2))) ∧ (¬ ((gI x.2.2 358 12) ≤ x.2.1) → vp_in x.2.1 96 ∧ ((¬ (gI x.2.2 373 x.2.1.toNatClampNeg) = 0 → G12_read_J80 p1 p2 p3 x.1 x.2.1 x.2.2 K23 K34 Q) ∧ ((gI x.2.2 373 x.2.1.toNatClampNeg) = 0 → ((x.1 < 0 → K34 (x.2.1, (x.2.1 + 1), x.2.2)) ∧ (¬ (x.1 < 0) → vp_in x.2.1 96 ∧ vp_in x.1 96 ∧ (((gI x.2.2 372 x.1.toNatClampNeg) ≤ (gI x.2.2 372 x.2.1.toNatClampNeg) → G12_read_J80 p1 p2 p3 x.1 x.2.1 x.2.2 K23 K34 Q) ∧ (¬ ((gI x.2.2 372 x.1.toNatClampNeg) ≤ (gI x.2.2 372 x.2.1.toNatClampNeg)) → K34 (x.2.1, (x.2.1 + 1), x.2.2)))))))))
def G12_read_L23  (p1 : Int32)  (Q : Int32 → MM → Prop) (K23 : Int32 × Int32 × MM → Prop) (x : Int32 × Int32 × MM) : Prop :=
  ((p1 ≤ x.2.1 → Q x.1 x.2.2) ∧ (¬ (p1 ≤ x.2.1) → Lp (G12_read_L34 p1 x.1 x.2.1 K23 Q) ((-1), 0, x.2.2)))
def G12_read (v1 : Int32) (μ : MM) (Q : Int32 → MM → Prop) : Prop :=
  Bd (sI μ 358 0 0) fun μ25 => G12_in (v1.toInt64) 0 96 μ25 (fun r27 μ26 => ((¬ r27 = 0 → Lp (G12_read_L23 v1 Q) (0, 0, μ26)) ∧ (r27 = 0 → Q (-1) μ26)))
def G12_ring (v1 : Int32) (v2 : Int32) (μ : MM) (Q : Int32 → MM → Prop) : Prop :=
  Bd (sI μ 358 0 0) fun μ9 => G12_isLetter v1 μ9 (fun r11 μ10 => ((r11 = 0 → Q 0 μ10) ∧ (¬ (r11 = 0) → vp_in v1 96 ∧ (((gI μ10 373 v1.toNatClampNeg) = 0 → vp_in v1 96 ∧ Bd (sI μ10 373 v1.toNatClampNeg (vp_nar .boolean 1)) fun μ16 => vp_in v1 96 ∧ Bd (sI μ16 374 v1.toNatClampNeg (vp_nar .boolean v2)) fun μ18 => Q 1 μ18) ∧ (¬ ((gI μ10 373 v1.toNatClampNeg) = 0) → Q 0 μ10)))))
def G12_box_J149  (p1 : Int32) (p2 : Int32) (p4 : Int32) (p5 : Int32) (p6 : Int32) (p7 : Int32) (q0 : Int32) (q1 : Int32) (μ : MM) (K46 : Int32 × Int32 × Int32 × MM → Prop) (Q : Int32 → MM → Prop) : Prop :=
  vp_in q1 96 ∧ Bd (sI μ 374 q1.toNatClampNeg (vp_nar .boolean q0)) fun μ29 => K46 (p5, (p6 + 1), (p7 + 1), μ29)
def G12_box_J98  (p1 : Int32) (p2 : Int32) (p4 : Int32) (p5 : Int32) (p6 : Int32) (p7 : Int32) (q0 : Int32) (μ : MM) (K46 : Int32 × Int32 × Int32 × MM → Prop) (Q : Int32 → MM → Prop) : Prop :=
  Bd (p5 + p4) fun y21 => vp_in p7 96 ∧ ((¬ (gI μ 373 p7.toNatClampNeg) = 0 → K46 (y21, p6, (p7 + 1), μ)) ∧ ((gI μ 373 p7.toNatClampNeg) = 0 → ((0 ≤ q0 → vp_in p7 96 ∧ Bd (sI μ 373 p7.toNatClampNeg (vp_nar .boolean 1)) fun μ26 => ((q0 ≤ 0 → G12_box_J149 p1 p2 p4 y21 p6 p7 0 p7 μ26 K46 Q) ∧ (¬ (q0 ≤ 0) → G12_box_J149 p1 p2 p4 y21 p6 p7 1 p7 μ26 K46 Q))) ∧ (¬ (0 ≤ q0) → K46 (y21, p6, (p7 + 1), μ)))))
def G12_box_J66  (p1 : Int32) (p2 : Int32) (p4 : Int32) (p5 : Int32) (p6 : Int32) (p7 : Int32) (μ : MM) (K46 : Int32 × Int32 × Int32 × MM → Prop) (Q : Int32 → MM → Prop) : Prop :=
  ((¬ p1 = 3 → ((¬ p1 = 0 → ((¬ p1 = 1 → G12_box_J98 p1 p2 p4 p5 p6 p7 p5 μ K46 Q) ∧ (p1 = 1 → G12_box_J98 p1 p2 p4 p5 p6 p7 (p5.toInt16.toInt32) μ K46 Q))) ∧ (p1 = 0 → G12_box_J98 p1 p2 p4 p5 p6 p7 (p5.toInt8.toInt32) μ K46 Q))) ∧ (p1 = 3 → G12_box_J98 p1 p2 p4 p5 p6 p7 0 μ K46 Q))
def G12_box_L46  (p1 : Int32) (p2 : Int32) (p4 : Int32)  (Q : Int32 → MM → Prop) (K46 : Int32 × Int32 × Int32 × MM → Prop) (x : Int32 × Int32 × Int32 × MM) : Prop :=
  (((gI x.2.2.2 358 12) ≤ x.2.2.1 → Q x.2.1 x.2.2.2) ∧ (¬ ((gI x.2.2.2 358 12) ≤ x.2.2.1) → ((p1 = 3 → G12_box_J66 p1 p2 p4 x.1 x.2.1 x.2.2.1 x.2.2.2 K46 Q) ∧ (¬ (p1 = 3) → ((p2 ≤ x.2.2.1 → Q x.2.1 x.2.2.2) ∧ (¬ (p2 ≤ x.2.2.1) → G12_box_J66 p1 p2 p4 x.1 x.2.1 x.2.2.1 x.2.2.2 K46 Q))))))
def G12_box (v1 : Int32) (v2 : Int32) (v3 : Int32) (v4 : Int32) (μ : MM) (Q : Int32 → MM → Prop) : Prop :=
  Bd (sI μ 358 0 0) fun μ10 => G12_in (v1.toInt64) 0 3 μ10 (fun r12 μ11 => ((r12 = 0 → Q (-1) μ11) ∧ (¬ (r12 = 0) → ((v2 ≤ 96 → ((v1 = 3 → Lp (G12_box_L46 v1 v2 v4 Q) (v3, 0, 0, μ11)) ∧ (¬ (v1 = 3) → ((0 ≤ v2 → Lp (G12_box_L46 v1 v2 v4 Q) (v3, 0, 0, μ11)) ∧ (¬ (0 ≤ v2) → Q (-2) μ11))))) ∧ (¬ (v2 ≤ 96) → Q (-1) μ11)))))
def G12_after (v1 : Int32) (v2 : Int32) (μ : MM) (Q : Int32 → MM → Prop) : Prop :=
  Bd (sI μ 358 0 0) fun μ11 => G12_isLetter v1 μ11 (fun r13 μ12 => ((r13 = 0 → Q (-1) μ12) ∧ (¬ (r13 = 0) → vp_in v1 96 ∧ (((gI μ12 374 v1.toNatClampNeg) = 0 → Q (-1) μ12) ∧ (¬ ((gI μ12 374 v1.toNatClampNeg) = 0) → G12_in (v2.toInt64) 0 2 μ12 (fun r18 μ17 => ((¬ r18 = 0 → vp_in v1 96 ∧ Bd (gI μ17 375 v1.toNatClampNeg) fun y21 => vp_in v1 96 ∧ Bd (sI μ17 375 v1.toNatClampNeg v2) fun μ23 => Q y21 μ23) ∧ (r18 = 0 → Q (-1) μ17))))))))
def G12_seed (v1 : Int32) (μ : MM) (Q : Int32 → MM → Prop) : Prop :=
  Bd (sI μ 358 0 0) fun μ4 => Bd (gI μ4 358 22) fun y5 => Bd (sI μ4 358 22 v1) fun μ6 => Q y5 μ6
def G12_isFilter_J33   (μ : MM)  (Q : Int32 → MM → Prop) : Prop :=
  Q 0 μ
def G12_isFilter (v1 : Int32) (μ : MM) (Q : Int32 → MM → Prop) : Prop :=
  ((v1 = (-1) → Q 1 μ) ∧ (¬ (v1 = (-1)) → G12_in (v1.toInt64) 0 5 μ (fun r6 μ5 => ((r6 = 0 → G12_isFilter_J33 μ5 Q) ∧ (¬ (r6 = 0) → vp_in (6 + v1) 13 ∧ (((gI μ5 378 ((6 + v1).toNatClampNeg)) ≤ 0 → G12_isFilter_J33 μ5 Q) ∧ (¬ ((gI μ5 378 ((6 + v1).toNatClampNeg)) ≤ 0) → Q 1 μ5)))))))
def G12_passes_J29   (μ : MM)  (Q : Int32 → MM → Prop) : Prop :=
  Q 0 μ
def G12_passes (v1 : Int32) (v2 : Int32) (μ : MM) (Q : Int32 → MM → Prop) : Prop :=
  vp_in v2 96 ∧ (((gI μ 373 v2.toNatClampNeg) = 0 → G12_passes_J29 μ Q) ∧ (¬ ((gI μ 373 v2.toNatClampNeg) = 0) → ((v1 < 0 → Q 1 μ) ∧ (¬ (v1 < 0) → G12_worked (6 + v1) v2 μ (fun r8 μ7 => ((r8 = 0 → G12_passes_J29 μ7 Q) ∧ (¬ (r8 = 0) → Q 1 μ7)))))))
def G12_peopleOf (v1 : Int32) (μ : MM) (Q : Int32 → MM → Prop) : Prop :=
  vp_in v1 96 ∧ vp_in (gI μ 368 v1.toNatClampNeg) 12 ∧ Q (gI μ 360 ((gI μ 368 v1.toNatClampNeg).toNatClampNeg)) μ
def G12_counts_L29  (p1 : Int32) (p2 : Int32)  (Q : MM → Prop) (K29 : Int32 × MM → Prop) (x : Int32 × MM) : Prop :=
  (((gI x.2 358 12) ≤ x.1 → Q x.2) ∧ (¬ ((gI x.2 358 12) ≤ x.1) → vp_in x.1 96 ∧ (((gI x.2 367 x.1.toNatClampNeg) = p2 → K29 ((x.1 + 1), x.2)) ∧ (¬ ((gI x.2 367 x.1.toNatClampNeg) = p2) → G12_passes p1 x.1 x.2 (fun r26 μ25 => ((r26 = 0 → K29 ((x.1 + 1), μ25)) ∧ (¬ (r26 = 0) → G12_peopleOf x.1 μ25 (fun r29 μ28 => vp_in r29 2 ∧ vp_in r29 2 ∧ Bd (sI μ28 381 r29.toNatClampNeg ((gI μ28 381 r29.toNatClampNeg) + 1)) fun μ32 => G12_peopleOf x.1 μ32 (fun r34 μ33 => vp_in r34 2 ∧ vp_in x.1 96 ∧ G12_flag (gI μ33 374 x.1.toNatClampNeg) μ33 (fun r38 μ37 => vp_in r34 2 ∧ Bd (sI μ37 382 r34.toNatClampNeg ((gI μ33 382 r34.toNatClampNeg) + r38)) fun μ40 => K29 ((x.1 + 1), μ40)))))))))))
def G12_counts_L2  (p1 : Int32) (p2 : Int32)  (Q : MM → Prop) (K2 : Int32 × MM → Prop) (x : Int32 × MM) : Prop :=
  ((2 ≤ x.1 → Lp (G12_counts_L29 p1 p2 Q) (0, x.2)) ∧ (¬ (2 ≤ x.1) → vp_in x.1 2 ∧ Bd (sI x.2 381 x.1.toNatClampNeg 0) fun μ42 => vp_in x.1 2 ∧ Bd (sI μ42 382 x.1.toNatClampNeg 0) fun μ44 => K2 ((x.1 + 1), μ44)))
def G12_counts (v1 : Int32) (v2 : Int32) (μ : MM) (Q : MM → Prop) : Prop :=
  Lp (G12_counts_L2 v1 v2 Q) (0, μ)
def G12_share (v1 : Int32) (μ : MM) (Q : Int32 → MM → Prop) : Prop :=
  Bd (sI μ 358 0 0) fun μ7 => G12_isFilter v1 μ7 (fun r9 μ8 => ((¬ r9 = 0 → G12_counts v1 (-1) μ8 (fun μ11 => Bd (sI μ11 358 1 0) fun μ12 => ((((gI μ12 381 0) + (gI μ12 381 1)) ≤ 0 → Q ((gI μ12 381 0) + (gI μ12 381 1)) μ12) ∧ (¬ (((gI μ12 381 0) + (gI μ12 381 1)) ≤ 0) → G12_entersFraction (((gI μ12 382 0) + (gI μ12 382 1)).toInt64) (((gI μ12 381 0) + (gI μ12 381 1)).toInt64) μ12 (fun μ14 => Q ((gI μ14 381 0) + (gI μ14 381 1)) μ14))))) ∧ (r9 = 0 → Q (-1) μ8)))
def G12_areBoth_J22   (μ : MM)  (Q : Int32 → MM → Prop) : Prop :=
  Q 0 μ
def G12_areBoth  (μ : MM) (Q : Int32 → MM → Prop) : Prop :=
  (((gI μ 381 0) ≤ 0 → G12_areBoth_J22 μ Q) ∧ (¬ ((gI μ 381 0) ≤ 0) → (((gI μ 381 1) ≤ 0 → G12_areBoth_J22 μ Q) ∧ (¬ ((gI μ 381 1) ≤ 0) → Q 1 μ))))
def G12_aside (v1 : Int32) (μ : MM) (Q : Int32 → MM → Prop) : Prop :=
  Bd (sI μ 358 0 0) fun μ13 => G12_isFilter v1 μ13 (fun r15 μ14 => ((¬ r15 = 0 → G12_counts v1 (-1) μ14 (fun μ17 => G12_areBoth μ17 (fun r19 μ18 => ((¬ r19 = 0 → Bd (sI μ18 358 1 0) fun μ21 => G12_entersFraction ((((gI μ21 382 0) * (gI μ21 381 1)) - ((gI μ21 382 1) * (gI μ21 381 0))).toInt64) (((gI μ21 381 0).toInt64) * ((gI μ21 381 1).toInt64)) μ21 (fun μ22 => G12_enters ((gI μ22 381 0).toInt64) μ22 (fun μ23 => G12_enters ((gI μ23 382 0).toInt64) μ23 (fun μ24 => G12_enters ((gI μ24 381 1).toInt64) μ24 (fun μ25 => G12_enters ((gI μ25 382 1).toInt64) μ25 (fun μ26 => Q 0 μ26)))))) ∧ (r19 = 0 → Q (-2) μ18))))) ∧ (r15 = 0 → Q (-1) μ14)))
def G12_choices_L16  (p0 : Int32) (p1 : Int32)  (Q : Int64 → MM → Prop) (K16 : Int64 × Int32 × MM → Prop) (x : Int64 × Int32 × MM) : Prop :=
  ((p1 < x.2.1 → Q x.1 x.2.2) ∧ (¬ (p1 < x.2.1) → ¬ (x.2.1.toInt64) = 0 ∧ Bd ((x.1 * (((p0 - p1) + x.2.1).toInt64)) / (x.2.1.toInt64)) fun y7 => K16 (y7, (x.2.1 + 1), x.2.2)))
def G12_choices (v0 : Int32) (v1 : Int32) (μ : MM) (Q : Int64 → MM → Prop) : Prop :=
  ((v1 < 0 → Q 0 μ) ∧ (¬ (v1 < 0) → ((v1 ≤ v0 → Lp (G12_choices_L16 v0 v1 Q) (1, 1, μ)) ∧ (¬ (v1 ≤ v0) → Q 0 μ))))
def G12_odds_J380  (p2 : Int32) (p3 : Int32) (p6 : Int64) (p8 : Int32) (q0 : Int64) (μ : MM) (K313 : Int64 × Int64 × Int32 × MM → Prop) (Q : Int32 → MM → Prop) : Prop :=
  Bd (q0 + 0) fun y67 => K313 (y67, p6, (p8 + 1), μ)
def G12_odds_L313  (p2 : Int32) (p3 : Int32)  (Q : Int32 → MM → Prop) (K313 : Int64 × Int64 × Int32 × MM → Prop) (x : Int64 × Int64 × Int32 × MM) : Prop :=
  ((192 ≤ x.2.2.1 → Bd (sI x.2.2.2 358 1 0) fun μ60 => G12_entersFraction x.1 x.2.1 μ60 (fun μ61 => Q 0 μ61)) ∧ (¬ (192 ≤ x.2.2.1) → vp_in x.2.2.1 192 ∧ Bd (x.2.1 + (gJ x.2.2.2 383 x.2.2.1.toNatClampNeg)) fun y63 => ((¬ p2 = 0 → ((¬ p2 = 1 → ((¬ x.2.2.1 = p3 → G12_odds_J380 p2 p3 y63 x.2.2.1 x.1 x.2.2.2 K313 Q) ∧ (x.2.2.1 = p3 → vp_in x.2.2.1 192 ∧ Bd (x.1 + (gJ x.2.2.2 383 x.2.2.1.toNatClampNeg)) fun y69 => K313 (y69, y63, (x.2.2.1 + 1), x.2.2.2)))) ∧ (p2 = 1 → ((x.2.2.1 < p3 → G12_odds_J380 p2 p3 y63 x.2.2.1 x.1 x.2.2.2 K313 Q) ∧ (¬ (x.2.2.1 < p3) → vp_in x.2.2.1 192 ∧ Bd (x.1 + (gJ x.2.2.2 383 x.2.2.1.toNatClampNeg)) fun y72 => K313 (y72, y63, (x.2.2.1 + 1), x.2.2.2)))))) ∧ (p2 = 0 → ((p3 < x.2.2.1 → G12_odds_J380 p2 p3 y63 x.2.2.1 x.1 x.2.2.2 K313 Q) ∧ (¬ (p3 < x.2.2.1) → vp_in x.2.2.1 192 ∧ Bd (x.1 + (gJ x.2.2.2 383 x.2.2.1.toNatClampNeg)) fun y75 => K313 (y75, y63, (x.2.2.1 + 1), x.2.2.2)))))))
def G12_odds_L268  (p1 : Int32) (p2 : Int32) (p3 : Int32) (p4 : Int32) (K68 : Int32 × Int32 × MM → Prop) (Q : Int32 → MM → Prop) (K268 : Int32 × MM → Prop) (x : Int32 × MM) : Prop :=
  ((192 ≤ x.1 → K68 (p3, (p4 + 1), x.2)) ∧ (¬ (192 ≤ x.1) → vp_in x.1 192 ∧ vp_in x.1 192 ∧ Bd (sJ x.2 383 x.1.toNatClampNeg (gJ x.2 384 x.1.toNatClampNeg)) fun μ81 => K268 ((x.1 + 1), μ81)))
def G12_odds_L194  (p1 : Int32) (p2 : Int32) (p3 : Int32) (p4 : Int32) (p5 : Int32) (p6 : Int32) (p7 : Int32) (p8 : Int32) (K68 : Int32 × Int32 × MM → Prop) (K178 : Int32 × MM → Prop) (Q : Int32 → MM → Prop) (K194 : Int64 × Int32 × MM → Prop) (x : Int64 × Int32 × MM) : Prop :=
  ((4 < x.2.1 → vp_in p8 192 ∧ Bd (sJ x.2.2 384 p8.toNatClampNeg x.1) fun μ84 => K178 ((p8 + 1), μ84)) ∧ (¬ (4 < x.2.1) → ((p8 < x.2.1 → vp_in p8 192 ∧ Bd (sJ x.2.2 384 p8.toNatClampNeg x.1) fun μ87 => K178 ((p8 + 1), μ87)) ∧ (¬ (p8 < x.2.1) → vp_in (p8 - x.2.1) 192 ∧ G12_choices p7 x.2.1 x.2.2 (fun r90 μ89 => G12_choices (p5 - p7) (p6 - x.2.1) μ89 (fun r92 μ91 => Bd (x.1 + (((gJ x.2.2 383 ((p8 - x.2.1).toNatClampNeg)) * r90) * r92)) fun y93 => K194 (y93, (x.2.1 + 1), μ91)))))))
def G12_odds_L178  (p1 : Int32) (p2 : Int32) (p3 : Int32) (p4 : Int32) (p5 : Int32) (p6 : Int32) (p7 : Int32) (K68 : Int32 × Int32 × MM → Prop) (Q : Int32 → MM → Prop) (K178 : Int32 × MM → Prop) (x : Int32 × MM) : Prop :=
  ((192 ≤ x.1 → Lp (G12_odds_L268 p1 p2 p3 p4 K68 Q) (0, x.2)) ∧ (¬ (192 ≤ x.1) → Lp (G12_odds_L194 p1 p2 p3 p4 p5 p6 p7 x.1 K68 K178 Q) (0, 0, x.2)))
def G12_odds_L89  (p1 : Int32) (p2 : Int32) (p4 : Int32) (K68 : Int32 × Int32 × MM → Prop) (Q : Int32 → MM → Prop) (K89 : Int32 × Int32 × Int32 × Int32 × Int32 × MM → Prop) (x : Int32 × Int32 × Int32 × Int32 × Int32 × MM) : Prop :=
  (((gI x.2.2.2.2.2 358 12) ≤ x.2.2.2.2.1 → Lp (G12_odds_L178 p1 p2 x.1 p4 x.2.1 x.2.2.1 x.2.2.2.1 K68 Q) (0, x.2.2.2.2.2)) ∧ (¬ ((gI x.2.2.2.2.2 358 12) ≤ x.2.2.2.2.1) → vp_in x.2.2.2.2.1 96 ∧ ((¬ (gI x.2.2.2.2.2 367 x.2.2.2.2.1.toNatClampNeg) = p4 → K89 (x.1, x.2.1, x.2.2.1, x.2.2.2.1, (x.2.2.2.2.1 + 1), x.2.2.2.2.2)) ∧ ((gI x.2.2.2.2.2 367 x.2.2.2.2.1.toNatClampNeg) = p4 → G12_passes p1 x.2.2.2.2.1 x.2.2.2.2.2 (fun r97 μ96 => ((r97 = 0 → K89 (x.1, x.2.1, x.2.2.1, x.2.2.2.1, (x.2.2.2.2.1 + 1), μ96)) ∧ (¬ (r97 = 0) → G12_peopleOf x.2.2.2.2.1 μ96 (fun r100 μ99 => Bd (x.2.2.1 + r100) fun y101 => vp_in x.2.2.2.2.1 96 ∧ G12_flag (gI μ99 374 x.2.2.2.2.1.toNatClampNeg) μ99 (fun r104 μ103 => Bd (x.2.2.2.1 + r104) fun y105 => G12_peopleOf x.2.2.2.2.1 μ103 (fun r107 μ106 => vp_in x.2.2.2.2.1 96 ∧ G12_flag (gI μ106 374 x.2.2.2.2.1.toNatClampNeg) μ106 (fun r110 μ109 => Bd (x.1 + (r107 * r110)) fun y111 => K89 (y111, (x.2.1 + 1), y101, y105, (x.2.2.2.2.1 + 1), μ109))))))))))))
def G12_odds_L68  (p1 : Int32) (p2 : Int32)  (Q : Int32 → MM → Prop) (K68 : Int32 × Int32 × MM → Prop) (x : Int32 × Int32 × MM) : Prop :=
  (((gI x.2.2 358 8) ≤ x.2.1 → Lp (G12_odds_L313 p2 x.1 Q) (0, 0, 0, x.2.2)) ∧ (¬ ((gI x.2.2 358 8) ≤ x.2.1) → Lp (G12_odds_L89 p1 p2 x.2.1 K68 Q) (x.1, 0, 0, 0, 0, x.2.2)))
def G12_odds_J52  (p1 : Int32) (p2 : Int32) (p3 : Int32) (q0 : Int32) (q1 : Int32) (μ : MM) (K29 : Int32 × MM → Prop) (Q : Int32 → MM → Prop) : Prop :=
  G12_flag q0 μ (fun r114 μ113 => vp_in q1 192 ∧ Bd (sJ μ113 383 q1.toNatClampNeg (r114.toInt64)) fun μ116 => K29 ((p3 + 1), μ116))
def G12_odds_L29  (p1 : Int32) (p2 : Int32)  (Q : Int32 → MM → Prop) (K29 : Int32 × MM → Prop) (x : Int32 × MM) : Prop :=
  ((192 ≤ x.1 → Lp (G12_odds_L68 p1 p2 Q) (0, 0, x.2)) ∧ (¬ (192 ≤ x.1) → ((¬ x.1 = 0 → G12_odds_J52 p1 p2 x.1 0 x.1 x.2 K29 Q) ∧ (x.1 = 0 → G12_odds_J52 p1 p2 x.1 1 x.1 x.2 K29 Q))))
def G12_odds (v1 : Int32) (v2 : Int32) (μ : MM) (Q : Int32 → MM → Prop) : Prop :=
  Bd (sI μ 358 0 0) fun μ50 => G12_isFilter v1 μ50 (fun r52 μ51 => ((r52 = 0 → Q (-1) μ51) ∧ (¬ (r52 = 0) → G12_in (v2.toInt64) 0 2 μ51 (fun r55 μ54 => ((¬ r55 = 0 → Lp (G12_odds_L29 v1 v2 Q) (0, μ54)) ∧ (r55 = 0 → Q (-1) μ54))))))
def G12_readMany_L4    (Q : Int32 → MM → Prop) (K4 : Int32 × Int32 × MM → Prop) (x : Int32 × Int32 × MM) : Prop :=
  (((gI x.2.2 358 12) ≤ x.2.1 → Q x.1 x.2.2) ∧ (¬ ((gI x.2.2 358 12) ≤ x.2.1) → vp_in x.2.1 96 ∧ G12_flag (gI x.2.2 373 x.2.1.toNatClampNeg) x.2.2 (fun r8 μ7 => Bd (x.1 + r8) fun y9 => K4 (y9, (x.2.1 + 1), μ7))))
def G12_readMany  (μ : MM) (Q : Int32 → MM → Prop) : Prop :=
  Lp (G12_readMany_L4 Q) (0, 0, μ)
def G12_weighs_J223  (p1 : Int64) (p3 : Int64) (p14 : Int32) (p16 : Int64) (p18 : Int64) (p20 : Int64) (μ : MM) (K85 : Int32 × Int64 × Int64 × Int64 × Int64 × Int32 × MM → Prop) (Q : Int32 → MM → Prop) : Prop :=
  K85 (p14, p20, p18, p16, p18, (p14 + 1), μ)
def G12_weighs_J133  (p1 : Int64) (p3 : Int64) (p5 : Int32) (p6 : Int64) (p8 : Int64) (p10 : Int64) (p12 : Int64) (p14 : Int32) (q0 : Int32) (μ : MM) (K85 : Int32 × Int64 × Int64 × Int64 × Int64 × Int32 × MM → Prop) (Q : Int32 → MM → Prop) : Prop :=
  ((¬ q0 = 0 → Bd ((((gI μ 382 0) * (gI μ 381 1)) - ((gI μ 382 1) * (gI μ 381 0))).toInt64) fun y33 => Bd (((gI μ 381 0).toInt64) * ((gI μ 381 1).toInt64)) fun y34 => Bd (if 0 < ((y33 * p3) - (p1 * y34)) then ((y33 * p3) - (p1 * y34)) else -((y33 * p3) - (p1 * y34))) fun y35 => ((p5 < 0 → G12_weighs_J223 p1 p3 p14 y33 y34 y35 μ K85 Q) ∧ (¬ (p5 < 0) → (((lg_cmp (y35 * p8) (p6 * y34)) ≤ 0 → K85 (p5, p6, p8, p10, p12, (p14 + 1), μ)) ∧ (¬ ((lg_cmp (y35 * p8) (p6 * y34)) ≤ 0) → G12_weighs_J223 p1 p3 p14 y33 y34 y35 μ K85 Q))))) ∧ (q0 = 0 → K85 (p5, p6, p8, p10, p12, (p14 + 1), μ)))
def G12_weighs_J132  (p1 : Int64) (p3 : Int64) (p5 : Int32) (p6 : Int64) (p8 : Int64) (p10 : Int64) (p12 : Int64) (p14 : Int32) (μ : MM) (K85 : Int32 × Int64 × Int64 × Int64 × Int64 × Int32 × MM → Prop) (Q : Int32 → MM → Prop) : Prop :=
  G12_weighs_J133 p1 p3 p5 p6 p8 p10 p12 p14 0 μ K85 Q
def G12_weighs_L85  (p1 : Int64) (p3 : Int64)  (Q : Int32 → MM → Prop) (K85 : Int32 × Int64 × Int64 × Int64 × Int64 × Int32 × MM → Prop) (x : Int32 × Int64 × Int64 × Int64 × Int64 × Int32 × MM) : Prop :=
  (((gI x.2.2.2.2.2.2 358 8) ≤ x.2.2.2.2.2.1 → ((x.1 < 0 → Q x.1 x.2.2.2.2.2.2) ∧ (¬ (x.1 < 0) → Bd (sI x.2.2.2.2.2.2 358 1 0) fun μ26 => G12_entersFraction x.2.2.2.1 x.2.2.2.2.1 μ26 (fun μ27 => Q x.1 μ27)))) ∧ (¬ ((gI x.2.2.2.2.2.2 358 8) ≤ x.2.2.2.2.2.1) → G12_counts (-1) x.2.2.2.2.2.1 x.2.2.2.2.2.2 (fun μ28 => G12_areBoth μ28 (fun r30 μ29 => ((r30 = 0 → G12_weighs_J132 p1 p3 x.1 x.2.1 x.2.2.1 x.2.2.2.1 x.2.2.2.2.1 x.2.2.2.2.2.1 μ29 K85 Q) ∧ (¬ (r30 = 0) → G12_readMany μ29 (fun r39 μ38 => ((r39 ≤ ((gI μ29 381 0) + (gI μ29 381 1)) → G12_weighs_J132 p1 p3 x.1 x.2.1 x.2.2.1 x.2.2.2.1 x.2.2.2.2.1 x.2.2.2.2.2.1 μ38 K85 Q) ∧ (¬ (r39 ≤ ((gI μ29 381 0) + (gI μ29 381 1))) → G12_weighs_J133 p1 p3 x.1 x.2.1 x.2.2.1 x.2.2.2.1 x.2.2.2.2.1 x.2.2.2.2.2.1 1 μ38 K85 Q)))))))))
def G12_weighs  (μ : MM) (Q : Int32 → MM → Prop) : Prop :=
  Bd (sI μ 358 0 0) fun μ17 => G12_counts (-1) (-1) μ17 (fun μ18 => G12_areBoth μ18 (fun r20 μ19 => ((¬ r20 = 0 → Bd ((((gI μ19 382 0) * (gI μ19 381 1)) - ((gI μ19 382 1) * (gI μ19 381 0))).toInt64) fun y22 => Bd (((gI μ19 381 0).toInt64) * ((gI μ19 381 1).toInt64)) fun y23 => Lp (G12_weighs_L85 y22 y23 Q) ((-2), 0, 1, 0, 1, 0, μ19)) ∧ (r20 = 0 → Q (-2) μ19))))
def G12_countsNames_J96  (p1 : Int32) (q0 : Int32) (q1 : Int32) (q2 : Int32) (μ : MM) (K30 : Int32 × MM → Prop) (Q : MM → Prop) : Prop :=
  G12_flag q0 μ (fun r34 μ33 => vp_in q2 12 ∧ Bd (sI μ33 386 q2.toNatClampNeg (q1 + r34)) fun μ36 => K30 ((p1 + 1), μ36))
def G12_countsNames_J95  (p1 : Int32) (q0 : Int32) (q1 : Int32) (μ : MM) (K30 : Int32 × MM → Prop) (Q : MM → Prop) : Prop :=
  G12_countsNames_J96 p1 0 q0 q1 μ K30 Q
def G12_countsNames_L30    (Q : MM → Prop) (K30 : Int32 × MM → Prop) (x : Int32 × MM) : Prop :=
  (((gI x.2 358 12) ≤ x.1 → Q x.2) ∧ (¬ ((gI x.2 358 12) ≤ x.1) → vp_in x.1 96 ∧ vp_in (gI x.2 368 x.1.toNatClampNeg) 12 ∧ vp_in x.1 96 ∧ G12_flag (gI x.2 373 x.1.toNatClampNeg) x.2 (fun r26 μ25 => vp_in (gI x.2 368 x.1.toNatClampNeg) 12 ∧ Bd (sI μ25 385 ((gI x.2 368 x.1.toNatClampNeg).toNatClampNeg) ((gI x.2 385 ((gI x.2 368 x.1.toNatClampNeg).toNatClampNeg)) + r26)) fun μ28 => vp_in x.1 96 ∧ vp_in (gI μ28 368 x.1.toNatClampNeg) 12 ∧ vp_in x.1 96 ∧ (((gI μ28 373 x.1.toNatClampNeg) = 0 → G12_countsNames_J95 x.1 (gI μ28 386 ((gI μ28 368 x.1.toNatClampNeg).toNatClampNeg)) (gI μ28 368 x.1.toNatClampNeg) μ28 K30 Q) ∧ (¬ ((gI μ28 373 x.1.toNatClampNeg) = 0) → vp_in x.1 96 ∧ (((gI μ28 374 x.1.toNatClampNeg) = 0 → G12_countsNames_J95 x.1 (gI μ28 386 ((gI μ28 368 x.1.toNatClampNeg).toNatClampNeg)) (gI μ28 368 x.1.toNatClampNeg) μ28 K30 Q) ∧ (¬ ((gI μ28 374 x.1.toNatClampNeg) = 0) → G12_countsNames_J96 x.1 1 (gI μ28 386 ((gI μ28 368 x.1.toNatClampNeg).toNatClampNeg)) (gI μ28 368 x.1.toNatClampNeg) μ28 K30 Q)))))))
def G12_countsNames_L2    (Q : MM → Prop) (K2 : Int32 × MM → Prop) (x : Int32 × MM) : Prop :=
  ((12 ≤ x.1 → Lp (G12_countsNames_L30 Q) (0, x.2)) ∧ (¬ (12 ≤ x.1) → vp_in x.1 12 ∧ Bd (sI x.2 385 x.1.toNatClampNeg 0) fun μ40 => vp_in x.1 12 ∧ Bd (sI μ40 386 x.1.toNatClampNeg 0) fun μ42 => K2 ((x.1 + 1), μ42)))
def G12_countsNames  (μ : MM) (Q : MM → Prop) : Prop :=
  Lp (G12_countsNames_L2 Q) (0, μ)
def G12_names (v1 : Int32) (μ : MM) (Q : Int32 → MM → Prop) : Prop :=
  Bd (sI μ 358 0 0) fun μ12 => G12_isName v1 μ12 (fun r14 μ13 => ((¬ r14 = 0 → G12_countsNames μ13 (fun μ16 => Bd (sI μ16 358 1 0) fun μ17 => vp_in v1 12 ∧ (((gI μ17 385 v1.toNatClampNeg) ≤ 0 → vp_in v1 12 ∧ Q (gI μ17 385 v1.toNatClampNeg) μ17) ∧ (¬ ((gI μ17 385 v1.toNatClampNeg) ≤ 0) → vp_in v1 12 ∧ vp_in v1 12 ∧ G12_entersFraction ((gI μ17 386 v1.toNatClampNeg).toInt64) ((gI μ17 385 v1.toNatClampNeg).toInt64) μ17 (fun μ23 => vp_in v1 12 ∧ Q (gI μ23 385 v1.toNatClampNeg) μ23))))) ∧ (r14 = 0 → Q (-1) μ13)))
def G12_drawn_J313  (p1 : Int64) (p4 : Int32) (p5 : Int64) (p7 : Int32) (p9 : Int32) (q0 : Int32) (q1 : Int32) (μ : MM) (K169 : Int32 × Int32 × Int32 × MM → Prop) (Q : Int32 → MM → Prop) : Prop :=
  G12_flag q0 μ (fun r53 μ52 => Bd (q1 + r53) fun y54 => K169 (p7, y54, (p9 + 1), μ52))
def G12_drawn_J312  (p1 : Int64) (p4 : Int32) (p5 : Int64) (p7 : Int32) (p9 : Int32) (q0 : Int32) (μ : MM) (K169 : Int32 × Int32 × Int32 × MM → Prop) (Q : Int32 → MM → Prop) : Prop :=
  G12_drawn_J313 p1 p4 p5 p7 p9 0 q0 μ K169 Q
def G12_drawn_J283  (p1 : Int64) (p4 : Int32) (p5 : Int64) (p7 : Int32) (p8 : Int32) (p9 : Int32) (p10 : Int32) (p11 : Int64) (μ : MM) (K169 : Int32 × Int32 × Int32 × MM → Prop) (Q : Int32 → MM → Prop) : Prop :=
  G12_flag p10 μ (fun r49 μ48 => Bd (p7 + r49) fun y50 => ((p10 = 0 → G12_drawn_J312 p1 p4 p5 y50 p9 p8 μ48 K169 Q) ∧ (¬ (p10 = 0) → ((0 < (lg_cmp p11 p5) → G12_drawn_J312 p1 p4 p5 y50 p9 p8 μ48 K169 Q) ∧ (¬ (0 < (lg_cmp p11 p5)) → G12_drawn_J313 p1 p4 p5 y50 p9 1 p8 μ48 K169 Q)))))
def G12_drawn_J274  (p1 : Int64) (p4 : Int32) (p5 : Int64) (p7 : Int32) (p8 : Int32) (p9 : Int32) (p10 : Int32) (p13 : Int32) (q0 : Int64) (q1 : Int64) (μ : MM) (K169 : Int32 × Int32 × Int32 × MM → Prop) (K203 : Int32 × Int64 × Int32 × MM → Prop) (Q : Int32 → MM → Prop) : Prop :=
  Bd (q1 + q0) fun y63 => K203 (p10, y63, (p13 + 1), μ)
def G12_drawn_J242  (p1 : Int64) (p4 : Int32) (p5 : Int64) (p7 : Int32) (p8 : Int32) (p9 : Int32) (p11 : Int64) (p13 : Int32) (q0 : Int32) (μ : MM) (K169 : Int32 × Int32 × Int32 × MM → Prop) (K203 : Int32 × Int64 × Int32 × MM → Prop) (Q : Int32 → MM → Prop) : Prop :=
  ((q0 = 0 → G12_drawn_J274 p1 p4 p5 p7 p8 p9 q0 p13 0 p11 μ K169 K203 Q) ∧ (¬ (q0 = 0) → vp_in p13 12 ∧ ¬ ((gI μ 385 p13.toNatClampNeg).toInt64) = 0 ∧ vp_in p13 12 ∧ G12_drawn_J274 p1 p4 p5 p7 p8 p9 q0 p13 ((p1 / ((gI μ 385 p13.toNatClampNeg).toInt64)) * ((gI μ 386 p13.toNatClampNeg).toInt64)) p11 μ K169 K203 Q))
def G12_drawn_L203  (p1 : Int64) (p4 : Int32) (p5 : Int64) (p7 : Int32) (p8 : Int32) (p9 : Int32) (K169 : Int32 × Int32 × Int32 × MM → Prop) (Q : Int32 → MM → Prop) (K203 : Int32 × Int64 × Int32 × MM → Prop) (x : Int32 × Int64 × Int32 × MM) : Prop :=
  (((gI x.2.2.2 358 3) ≤ x.2.2.1 → G12_drawn_J283 p1 p4 p5 p7 p8 p9 x.1 x.2.1 x.2.2.2 K169 Q) ∧ (¬ ((gI x.2.2.2 358 3) ≤ x.2.2.1) → ((x.1 = 0 → G12_drawn_J283 p1 p4 p5 p7 p8 p9 x.1 x.2.1 x.2.2.2 K169 Q) ∧ (¬ (x.1 = 0) → G12_has p9 x.2.2.1 x.2.2.2 (fun r58 μ57 => ((r58 = 0 → K203 (x.1, x.2.1, (x.2.2.1 + 1), μ57)) ∧ (¬ (r58 = 0) → vp_in x.2.2.1 12 ∧ (((gI μ57 385 x.2.2.1.toNatClampNeg) ≤ 0 → G12_drawn_J242 p1 p4 p5 p7 p8 p9 x.2.1 x.2.2.1 0 μ57 K169 K203 Q) ∧ (¬ ((gI μ57 385 x.2.2.1.toNatClampNeg) ≤ 0) → G12_drawn_J242 p1 p4 p5 p7 p8 p9 x.2.1 x.2.2.1 1 μ57 K169 K203 Q)))))))))
def G12_drawn_L169  (p1 : Int64) (p4 : Int32) (p5 : Int64)  (Q : Int32 → MM → Prop) (K169 : Int32 × Int32 × Int32 × MM → Prop) (x : Int32 × Int32 × Int32 × MM) : Prop :=
  (((1 <<< ((gI x.2.2.2 358 3) &&& 31)) ≤ x.2.2.1 → Bd (sI x.2.2.2 358 1 0) fun μ42 => G12_entersFraction (x.2.1.toInt64) (x.1.toInt64) μ42 (fun μ43 => Q 0 μ43)) ∧ (¬ ((1 <<< ((gI x.2.2.2 358 3) &&& 31)) ≤ x.2.2.1) → GJ6_bitCount_0f7a4 x.2.2.1 x.2.2.2 (fun r45 μ44 => ((¬ r45 = p4 → Lp (G12_drawn_L203 p1 p4 p5 x.1 x.2.1 x.2.2.1 K169 Q) (0, 0, 0, μ44)) ∧ (r45 = p4 → Lp (G12_drawn_L203 p1 p4 p5 x.1 x.2.1 x.2.2.1 K169 Q) (1, 0, 0, μ44))))))
def G12_drawn_J150  (p1 : Int64) (p4 : Int32) (p7 : Int32) (q0 : Int64) (μ : MM) (K96 : Int64 × Int32 × MM → Prop) (Q : Int32 → MM → Prop) : Prop :=
  Bd (q0 + 0) fun y69 => K96 (y69, (p7 + 1), μ)
def G12_drawn_L96  (p1 : Int64) (p4 : Int32)  (Q : Int32 → MM → Prop) (K96 : Int64 × Int32 × MM → Prop) (x : Int64 × Int32 × MM) : Prop :=
  (((gI x.2.2 358 3) ≤ x.2.1 → Lp (G12_drawn_L169 p1 p4 x.1 Q) (0, 0, 0, x.2.2)) ∧ (¬ ((gI x.2.2 358 3) ≤ x.2.1) → vp_in x.2.1 12 ∧ (((gI x.2.2 385 x.2.1.toNatClampNeg) ≤ 0 → G12_drawn_J150 p1 p4 x.2.1 x.1 x.2.2 K96 Q) ∧ (¬ ((gI x.2.2 385 x.2.1.toNatClampNeg) ≤ 0) → vp_in x.2.1 12 ∧ ((¬ (gI x.2.2 360 x.2.1.toNatClampNeg) = 1 → G12_drawn_J150 p1 p4 x.2.1 x.1 x.2.2 K96 Q) ∧ ((gI x.2.2 360 x.2.1.toNatClampNeg) = 1 → vp_in x.2.1 12 ∧ ¬ ((gI x.2.2 385 x.2.1.toNatClampNeg).toInt64) = 0 ∧ vp_in x.2.1 12 ∧ Bd (x.1 + ((p1 / ((gI x.2.2 385 x.2.1.toNatClampNeg).toInt64)) * ((gI x.2.2 386 x.2.1.toNatClampNeg).toInt64))) fun y75 => K96 (y75, (x.2.1 + 1), x.2.2)))))))
def G12_drawn_L19    (Q : Int32 → MM → Prop) (K19 : Int64 × Int32 × Int32 × Int32 × MM → Prop) (x : Int64 × Int32 × Int32 × Int32 × MM) : Prop :=
  (((gI x.2.2.2.2 358 3) ≤ x.2.2.2.1 → ((¬ x.2.1 = 0 → Lp (G12_drawn_L96 x.1 x.2.2.1 Q) (0, 0, x.2.2.2.2)) ∧ (x.2.1 = 0 → Q (-2) x.2.2.2.2))) ∧ (¬ ((gI x.2.2.2.2 358 3) ≤ x.2.2.2.1) → vp_in x.2.2.2.1 12 ∧ (((gI x.2.2.2.2 385 x.2.2.2.1.toNatClampNeg) ≤ 0 → K19 (x.1, x.2.1, x.2.2.1, (x.2.2.2.1 + 1), x.2.2.2.2)) ∧ (¬ ((gI x.2.2.2.2 385 x.2.2.2.1.toNatClampNeg) ≤ 0) → vp_in x.2.2.2.1 12 ∧ G12_common x.1 ((gI x.2.2.2.2 385 x.2.2.2.1.toNatClampNeg).toInt64) x.2.2.2.2 (fun r80 μ79 => ¬ r80 = 0 ∧ vp_in x.2.2.2.1 12 ∧ Bd ((x.1 / r80) * ((gI μ79 385 x.2.2.2.1.toNatClampNeg).toInt64)) fun y83 => vp_in x.2.2.2.1 12 ∧ Bd (x.2.2.1 + (gI μ79 360 x.2.2.2.1.toNatClampNeg)) fun y85 => K19 (y83, (x.2.1 + 1), y85, (x.2.2.2.1 + 1), μ79))))))
def G12_drawn  (μ : MM) (Q : Int32 → MM → Prop) : Prop :=
  Bd (sI μ 358 0 0) fun μ36 => G12_countsNames μ36 (fun μ37 => Lp (G12_drawn_L19 Q) (1, 0, 0, 0, μ37))
def G12_saysOf (v1 : Int32) (v2 : Int32) (μ : MM) (Q : Int32 → MM → Prop) : Prop :=
  ((¬ v1 = 0 → ((¬ v1 = 1 → ((¬ v1 = 2 → vp_in v2 12 ∧ Q (gI μ 363 v2.toNatClampNeg) μ) ∧ (v1 = 2 → vp_in v2 12 ∧ Q (gI μ 362 v2.toNatClampNeg) μ))) ∧ (v1 = 1 → vp_in v2 12 ∧ Q (gI μ 361 v2.toNatClampNeg) μ))) ∧ (v1 = 0 → vp_in v2 12 ∧ Q (gI μ 360 v2.toNatClampNeg) μ))
def G12_compares (v1 : Int32) (v2 : Int32) (μ : MM) (Q : Int32 → MM → Prop) : Prop :=
  vp_in v1 12 ∧ vp_in v2 12 ∧ vp_in v2 12 ∧ vp_in v1 12 ∧ GJ6_compare_7cf53 ((gI μ 386 v1.toNatClampNeg) * (gI μ 385 v2.toNatClampNeg)) ((gI μ 386 v2.toNatClampNeg) * (gI μ 385 v1.toNatClampNeg)) μ (fun r12 μ11 => Q r12 μ11)
def GJ6_signum_0f7a4 (v0 : Int32) (μ : MM) (Q : Int32 → MM → Prop) : Prop :=
  Q ((v0 >>> (31 &&& 31)) ||| (((-v0).toUInt32 >>> ((31 : Int32).toUInt32 &&& Int32.toUInt32 31)).toInt32)) μ
def G12_pairsOf_J137  (p1 : Int32) (p2 : Int32) (p3 : Int32) (q0 : Int32) (q1 : Int32) (μ : MM) (K17 : Int32 × MM → Prop) (K27 : Int32 × MM → Prop) (Q : MM → Prop) : Prop :=
  G12_flag q0 μ (fun r52 μ51 => Bd (sI μ51 358 44 (q1 + r52)) fun μ53 => K27 ((p3 + 1), μ53))
def G12_pairsOf_J115  (p1 : Int32) (p2 : Int32) (p3 : Int32) (p4 : Int32) (q0 : Int32) (q1 : Int32) (μ : MM) (K17 : Int32 × MM → Prop) (K27 : Int32 × MM → Prop) (Q : MM → Prop) : Prop :=
  G12_flag q0 μ (fun r48 μ47 => Bd (sI μ47 358 43 (q1 + r48)) fun μ49 => ((¬ p4 = 0 → G12_pairsOf_J137 p1 p2 p3 0 (gI μ49 358 44) μ49 K17 K27 Q) ∧ (p4 = 0 → G12_pairsOf_J137 p1 p2 p3 1 (gI μ49 358 44) μ49 K17 K27 Q)))
def G12_pairsOf_J93  (p1 : Int32) (p2 : Int32) (p3 : Int32) (p4 : Int32) (q0 : Int32) (q1 : Int32) (μ : MM) (K17 : Int32 × MM → Prop) (K27 : Int32 × MM → Prop) (Q : MM → Prop) : Prop :=
  G12_flag q0 μ (fun r44 μ43 => Bd (sI μ43 358 42 (q1 + r44)) fun μ45 => ((0 ≤ p4 → G12_pairsOf_J115 p1 p2 p3 p4 0 (gI μ45 358 43) μ45 K17 K27 Q) ∧ (¬ (0 ≤ p4) → G12_pairsOf_J115 p1 p2 p3 p4 1 (gI μ45 358 43) μ45 K17 K27 Q)))
def G12_pairsOf_L27  (p1 : Int32) (p2 : Int32) (K17 : Int32 × MM → Prop) (Q : MM → Prop) (K27 : Int32 × MM → Prop) (x : Int32 × MM) : Prop :=
  ((p2 ≤ x.1 → K17 ((p2 + 1), x.2)) ∧ (¬ (p2 ≤ x.1) → vp_in p2 12 ∧ (((gI x.2 385 p2.toNatClampNeg) = 0 → K27 ((x.1 + 1), x.2)) ∧ (¬ ((gI x.2 385 p2.toNatClampNeg) = 0) → vp_in x.1 12 ∧ ((¬ (gI x.2 385 x.1.toNatClampNeg) = 0 → G12_saysOf p1 p2 x.2 (fun r34 μ33 => G12_saysOf p1 x.1 μ33 (fun r36 μ35 => GJ6_signum_0f7a4 (r34 - r36) μ35 (fun r38 μ37 => G12_compares p2 x.1 μ37 (fun r40 μ39 => Bd (r38 * r40) fun y41 => ((y41 ≤ 0 → G12_pairsOf_J93 p1 p2 x.1 y41 0 (gI μ39 358 42) μ39 K17 K27 Q) ∧ (¬ (y41 ≤ 0) → G12_pairsOf_J93 p1 p2 x.1 y41 1 (gI μ39 358 42) μ39 K17 K27 Q))))))) ∧ ((gI x.2 385 x.1.toNatClampNeg) = 0 → K27 ((x.1 + 1), x.2)))))))
def G12_pairsOf_L17  (p1 : Int32)  (Q : MM → Prop) (K17 : Int32 × MM → Prop) (x : Int32 × MM) : Prop :=
  (((gI x.2 358 3) ≤ x.1 → Q x.2) ∧ (¬ ((gI x.2 358 3) ≤ x.1) → Lp (G12_pairsOf_L27 p1 x.1 K17 Q) (0, x.2)))
def G12_pairsOf (v1 : Int32) (μ : MM) (Q : MM → Prop) : Prop :=
  Bd (sI μ 358 42 0) fun μ24 => Bd (sI μ24 358 43 0) fun μ25 => Bd (sI μ25 358 44 0) fun μ26 => Lp (G12_pairsOf_L17 v1 Q) (0, μ26)
def G12_goes (v1 : Int32) (μ : MM) (Q : Int32 → MM → Prop) : Prop :=
  Bd (sI μ 358 0 0) fun μ9 => G12_in (v1.toInt64) 0 3 μ9 (fun r11 μ10 => ((¬ r11 = 0 → G12_countsNames μ10 (fun μ13 => G12_pairsOf v1 μ13 (fun μ14 => Bd (sI μ14 358 1 0) fun μ15 => G12_enters ((gI μ15 358 43).toInt64) μ15 (fun μ16 => G12_enters ((gI μ16 358 44).toInt64) μ16 (fun μ17 => Q (gI μ17 358 42) μ17))))) ∧ (r11 = 0 → Q (-1) μ10)))
def G12_says_J52  (p3 : Int32) (p4 : Int32) (μ : MM) (K15 : Int32 × Int32 × Int32 × MM → Prop) (Q : Int32 → MM → Prop) : Prop :=
  K15 (p3, p4, (p3 + 1), μ)
def G12_says_L15    (Q : Int32 → MM → Prop) (K15 : Int32 × Int32 × Int32 × MM → Prop) (x : Int32 × Int32 × Int32 × MM) : Prop :=
  ((4 ≤ x.2.2.1 → Bd (sI x.2.2.2 358 1 0) fun μ10 => G12_enters (x.2.1.toInt64) μ10 (fun μ11 => Q x.1 μ11)) ∧ (¬ (4 ≤ x.2.2.1) → G12_pairsOf x.2.2.1 x.2.2.2 (fun μ12 => Bd ((gI μ12 358 42) - (gI μ12 358 43)) fun y13 => ((x.2.2.1 = 0 → G12_says_J52 x.2.2.1 y13 μ12 K15 Q) ∧ (¬ (x.2.2.1 = 0) → (((if 0 ≤ y13 then y13 else 0 - y13) ≤ (if 0 ≤ x.2.1 then x.2.1 else 0 - x.2.1) → K15 (x.1, x.2.1, (x.2.2.1 + 1), μ12)) ∧ (¬ ((if 0 ≤ y13 then y13 else 0 - y13) ≤ (if 0 ≤ x.2.1 then x.2.1 else 0 - x.2.1)) → G12_says_J52 x.2.2.1 y13 μ12 K15 Q)))))))
def G12_says  (μ : MM) (Q : Int32 → MM → Prop) : Prop :=
  Bd (sI μ 358 0 0) fun μ7 => G12_countsNames μ7 (fun μ8 => Lp (G12_says_L15 Q) (0, 0, 0, μ8))
def G12_child_J182  (p1 : Int32) (p2 : Int32) (p3 : Int32) (p5 : Int32) (p6 : Int32) (q0 : Int32) (q1 : Int32) (μ : MM) (K33 : Int32 × Int32 × Int32 × Int32 × MM → Prop) (K45 : Int32 × Int32 × Int32 × Int32 × MM → Prop) (Q : Int32 → MM → Prop) : Prop :=
  G12_flag q0 μ (fun r54 μ53 => Bd (q1 + r54) fun y55 => K45 (p2, p3, y55, (p6 + 1), μ53))
def G12_child_J159  (p1 : Int32) (p2 : Int32) (p4 : Int32) (p5 : Int32) (p6 : Int32) (q0 : Int32) (q1 : Int32) (μ : MM) (K33 : Int32 × Int32 × Int32 × Int32 × MM → Prop) (K45 : Int32 × Int32 × Int32 × Int32 × MM → Prop) (Q : Int32 → MM → Prop) : Prop :=
  G12_flag q0 μ (fun r48 μ47 => Bd (q1 + r48) fun y49 => G12_compares p5 p6 μ47 (fun r51 μ50 => ((0 ≤ r51 → G12_child_J182 p1 p2 y49 p5 p6 0 p4 μ50 K33 K45 Q) ∧ (¬ (0 ≤ r51) → G12_child_J182 p1 p2 y49 p5 p6 1 p4 μ50 K33 K45 Q))))
def G12_child_J112  (p1 : Int32) (p2 : Int32) (p3 : Int32) (p4 : Int32) (p5 : Int32) (p6 : Int32) (q0 : Int32) (μ : MM) (K33 : Int32 × Int32 × Int32 × Int32 × MM → Prop) (K45 : Int32 × Int32 × Int32 × Int32 × MM → Prop) (Q : Int32 → MM → Prop) : Prop :=
  ((q0 = 0 → K45 (p2, p3, p4, (p6 + 1), μ)) ∧ (¬ (q0 = 0) → vp_in p5 12 ∧ (((gI μ 385 p5.toNatClampNeg) ≤ 0 → K45 (p2, p3, p4, (p6 + 1), μ)) ∧ (¬ ((gI μ 385 p5.toNatClampNeg) ≤ 0) → vp_in p6 12 ∧ (((gI μ 385 p6.toNatClampNeg) ≤ 0 → K45 (p2, p3, p4, (p6 + 1), μ)) ∧ (¬ ((gI μ 385 p6.toNatClampNeg) ≤ 0) → G12_compares p5 p6 μ (fun r45 μ44 => ((r45 ≤ 0 → G12_child_J159 p1 (p2 + 1) p4 p5 p6 0 p3 μ44 K33 K45 Q) ∧ (¬ (r45 ≤ 0) → G12_child_J159 p1 (p2 + 1) p4 p5 p6 1 p3 μ44 K33 K45 Q)))))))))
def G12_child_J111  (p1 : Int32) (p2 : Int32) (p3 : Int32) (p4 : Int32) (p5 : Int32) (p6 : Int32) (μ : MM) (K33 : Int32 × Int32 × Int32 × Int32 × MM → Prop) (K45 : Int32 × Int32 × Int32 × Int32 × MM → Prop) (Q : Int32 → MM → Prop) : Prop :=
  G12_child_J112 p1 p2 p3 p4 p5 p6 0 μ K33 K45 Q
def G12_child_L45  (p1 : Int32) (p5 : Int32) (K33 : Int32 × Int32 × Int32 × Int32 × MM → Prop) (Q : Int32 → MM → Prop) (K45 : Int32 × Int32 × Int32 × Int32 × MM → Prop) (x : Int32 × Int32 × Int32 × Int32 × MM) : Prop :=
  (((gI x.2.2.2.2 358 3) ≤ x.2.2.2.1 → K33 (x.1, x.2.1, x.2.2.1, (p5 + 1), x.2.2.2.2)) ∧ (¬ ((gI x.2.2.2.2 358 3) ≤ x.2.2.2.1) → vp_in p5 12 ∧ vp_in x.2.2.2.1 12 ∧ ((¬ (gI x.2.2.2.2 360 p5.toNatClampNeg) = (gI x.2.2.2.2 360 x.2.2.2.1.toNatClampNeg) → G12_child_J111 p1 x.1 x.2.1 x.2.2.1 p5 x.2.2.2.1 x.2.2.2.2 K33 K45 Q) ∧ ((gI x.2.2.2.2 360 p5.toNatClampNeg) = (gI x.2.2.2.2 360 x.2.2.2.1.toNatClampNeg) → vp_in p5 12 ∧ vp_in x.2.2.2.1 12 ∧ ((¬ (gI x.2.2.2.2 361 p5.toNatClampNeg) = (gI x.2.2.2.2 361 x.2.2.2.1.toNatClampNeg) → G12_child_J111 p1 x.1 x.2.1 x.2.2.1 p5 x.2.2.2.1 x.2.2.2.2 K33 K45 Q) ∧ ((gI x.2.2.2.2 361 p5.toNatClampNeg) = (gI x.2.2.2.2 361 x.2.2.2.1.toNatClampNeg) → vp_in p5 12 ∧ vp_in x.2.2.2.1 12 ∧ ((((gI x.2.2.2.2 362 p5.toNatClampNeg) - (gI x.2.2.2.2 362 x.2.2.2.1.toNatClampNeg)) < p1 → G12_child_J111 p1 x.1 x.2.1 x.2.2.1 p5 x.2.2.2.1 x.2.2.2.2 K33 K45 Q) ∧ (¬ (((gI x.2.2.2.2 362 p5.toNatClampNeg) - (gI x.2.2.2.2 362 x.2.2.2.1.toNatClampNeg)) < p1) → G12_child_J112 p1 x.1 x.2.1 x.2.2.1 p5 x.2.2.2.1 1 x.2.2.2.2 K33 K45 Q))))))))
def G12_child_L33  (p1 : Int32)  (Q : Int32 → MM → Prop) (K33 : Int32 × Int32 × Int32 × Int32 × MM → Prop) (x : Int32 × Int32 × Int32 × Int32 × MM) : Prop :=
  (((gI x.2.2.2.2 358 3) ≤ x.2.2.2.1 → Bd (sI x.2.2.2.2 358 1 0) fun μ32 => G12_enters (x.1.toInt64) μ32 (fun μ33 => G12_enters (x.2.2.1.toInt64) μ33 (fun μ34 => Q x.2.1 μ34))) ∧ (¬ ((gI x.2.2.2.2 358 3) ≤ x.2.2.2.1) → Lp (G12_child_L45 p1 x.2.2.2.1 K33 Q) (x.1, x.2.1, x.2.2.1, 0, x.2.2.2.2)))
def G12_child (v1 : Int32) (μ : MM) (Q : Int32 → MM → Prop) : Prop :=
  Bd (sI μ 358 0 0) fun μ26 => G12_in (v1.toInt64) 1 9 μ26 (fun r28 μ27 => ((¬ r28 = 0 → G12_countsNames μ27 (fun μ30 => Lp (G12_child_L33 v1 Q) (0, 0, 0, 0, μ30))) ∧ (r28 = 0 → Q (-1) μ27)))
def G12_countsHouse_L29  (p1 : Int32)  (Q : Int32 → MM → Prop) (K29 : Int32 × MM → Prop) (x : Int32 × MM) : Prop :=
  (((gI x.2 358 12) ≤ x.1 → Q ((gI x.2 390 0) + (gI x.2 390 1)) x.2) ∧ (¬ ((gI x.2 358 12) ≤ x.1) → vp_in x.1 96 ∧ ((¬ (gI x.2 367 x.1.toNatClampNeg) = p1 → K29 ((x.1 + 1), x.2)) ∧ ((gI x.2 367 x.1.toNatClampNeg) = p1 → vp_in x.1 96 ∧ (((gI x.2 373 x.1.toNatClampNeg) = 0 → K29 ((x.1 + 1), x.2)) ∧ (¬ ((gI x.2 373 x.1.toNatClampNeg) = 0) → G12_peopleOf x.1 x.2 (fun r27 μ26 => vp_in r27 2 ∧ vp_in r27 2 ∧ Bd (sI μ26 390 r27.toNatClampNeg ((gI μ26 390 r27.toNatClampNeg) + 1)) fun μ30 => G12_peopleOf x.1 μ30 (fun r32 μ31 => vp_in r32 2 ∧ vp_in x.1 96 ∧ G12_flag (gI μ31 374 x.1.toNatClampNeg) μ31 (fun r36 μ35 => vp_in r32 2 ∧ Bd (sI μ35 391 r32.toNatClampNeg ((gI μ31 391 r32.toNatClampNeg) + r36)) fun μ38 => K29 ((x.1 + 1), μ38))))))))))
def G12_countsHouse_L2  (p1 : Int32)  (Q : Int32 → MM → Prop) (K2 : Int32 × MM → Prop) (x : Int32 × MM) : Prop :=
  ((2 ≤ x.1 → Lp (G12_countsHouse_L29 p1 Q) (0, x.2)) ∧ (¬ (2 ≤ x.1) → vp_in x.1 2 ∧ Bd (sI x.2 390 x.1.toNatClampNeg 0) fun μ40 => vp_in x.1 2 ∧ Bd (sI μ40 391 x.1.toNatClampNeg 0) fun μ42 => K2 ((x.1 + 1), μ42)))
def G12_countsHouse (v1 : Int32) (μ : MM) (Q : Int32 → MM → Prop) : Prop :=
  Lp (G12_countsHouse_L2 v1 Q) (0, μ)
def G12_table_J80  (p1 : Int32) (p2 : Int32) (p4 : Int32) (q0 : Int32) (q1 : Int32) (μ : MM) (K36 : Int32 × Int32 × MM → Prop) (Q : Int32 → MM → Prop) : Prop :=
  G12_flag q0 μ (fun r23 μ22 => Bd (q1 + r23) fun y24 => K36 (y24, (p4 + 1), μ22))
def G12_table_J79  (p1 : Int32) (p2 : Int32) (p4 : Int32) (q0 : Int32) (μ : MM) (K36 : Int32 × Int32 × MM → Prop) (Q : Int32 → MM → Prop) : Prop :=
  G12_table_J80 p1 p2 p4 0 q0 μ K36 Q
def G12_table_L36  (p1 : Int32) (p2 : Int32)  (Q : Int32 → MM → Prop) (K36 : Int32 × Int32 × MM → Prop) (x : Int32 × Int32 × MM) : Prop :=
  (((gI x.2.2 358 8) ≤ x.2.1 → Q x.1 x.2.2) ∧ (¬ ((gI x.2.2 358 8) ≤ x.2.1) → G12_countsHouse x.2.1 x.2.2 (fun r20 μ19 => ((r20 ≤ 0 → G12_table_J79 p1 p2 x.2.1 x.1 μ19 K36 Q) ∧ (¬ (r20 ≤ 0) → ((¬ (gI μ19 391 0) = p1 → G12_table_J79 p1 p2 x.2.1 x.1 μ19 K36 Q) ∧ ((gI μ19 391 0) = p1 → ((¬ (gI μ19 391 1) = p2 → G12_table_J79 p1 p2 x.2.1 x.1 μ19 K36 Q) ∧ ((gI μ19 391 1) = p2 → G12_table_J80 p1 p2 x.2.1 1 x.1 μ19 K36 Q)))))))))
def G12_table (v1 : Int32) (v2 : Int32) (μ : MM) (Q : Int32 → MM → Prop) : Prop :=
  Bd (sI μ 358 0 0) fun μ11 => G12_in (v1.toInt64) 0 4 μ11 (fun r13 μ12 => ((r13 = 0 → Q (-1) μ12) ∧ (¬ (r13 = 0) → G12_in (v2.toInt64) 0 4 μ12 (fun r16 μ15 => ((¬ r16 = 0 → Lp (G12_table_L36 v1 v2 Q) (0, 0, μ15)) ∧ (r16 = 0 → Q (-1) μ15))))))
def G12_isKind (v0 : Int32) (μ : MM) (Q : Int32 → MM → Prop) : Prop :=
  G12_in (v0.toInt64) 0 3 μ (fun r4 μ3 => bo r4 ∧ Q r4 μ3)
def G12_kind (v1 : Int32) (v2 : Int32) (v3 : Int32) (μ : MM) (Q : Int32 → MM → Prop) : Prop :=
  Bd (sI μ 358 0 0) fun μ12 => G12_isKind v1 μ12 (fun r14 μ13 => ((r14 = 0 → Q 0 μ13) ∧ (¬ (r14 = 0) → G12_in (v2.toInt64) 0 100 μ13 (fun r17 μ16 => ((r17 = 0 → Q 0 μ16) ∧ (¬ (r17 = 0) → G12_in (v3.toInt64) 0 100 μ16 (fun r20 μ19 => ((¬ r20 = 0 → vp_in v1 4 ∧ Bd (sI μ19 387 v1.toNatClampNeg v2) fun μ23 => vp_in v1 4 ∧ Bd (sI μ23 388 v1.toNatClampNeg v3) fun μ25 => Q 1 μ25) ∧ (r20 = 0 → Q 0 μ19)))))))))
def G12_parts_L38  (p1 : Int32) (p2 : Int32)  (Q : Int32 → MM → Prop) (K38 : Int32 × Int32 × MM → Prop) (x : Int32 × Int32 × MM) : Prop :=
  ((4 ≤ x.2.1 → ((¬ x.1 = 0 → vp_in p1 4 ∧ Bd (gI x.2.2 389 p1.toNatClampNeg) fun y26 => vp_in p1 4 ∧ Bd (sI x.2.2 389 p1.toNatClampNeg p2) fun μ28 => Q y26 μ28) ∧ (x.1 = 0 → Q (-1) x.2.2))) ∧ (¬ (4 ≤ x.2.1) → vp_in x.2.1 4 ∧ Bd (x.1 + (gI x.2.2 389 x.2.1.toNatClampNeg)) fun y30 => K38 (y30, (x.2.1 + 1), x.2.2)))
def G12_parts (v1 : Int32) (v2 : Int32) (μ : MM) (Q : Int32 → MM → Prop) : Prop :=
  Bd (sI μ 358 0 0) fun μ14 => G12_isKind v1 μ14 (fun r16 μ15 => ((r16 = 0 → Q (-1) μ15) ∧ (¬ (r16 = 0) → G12_in (v2.toInt64) 0 99 μ15 (fun r19 μ18 => ((¬ r19 = 0 → vp_in v1 4 ∧ Bd (v2 - (gI μ18 389 v1.toNatClampNeg)) fun y22 => Lp (G12_parts_L38 v1 v2 Q) (y22, 0, μ18)) ∧ (r19 = 0 → Q (-1) μ18))))))
def G12_power_L5  (p0 : Int64) (p2 : Int32)  (Q : Int64 → MM → Prop) (K5 : Int64 × Int32 × MM → Prop) (x : Int64 × Int32 × MM) : Prop :=
  ((p2 ≤ x.2.1 → Q x.1 x.2.2) ∧ (¬ (p2 ≤ x.2.1) → Bd (x.1 * p0) fun y3 => K5 (y3, (x.2.1 + 1), x.2.2)))
def G12_power (v0 : Int64) (v2 : Int32) (μ : MM) (Q : Int64 → MM → Prop) : Prop :=
  Lp (G12_power_L5 v0 v2 Q) (1, 0, μ)
def G12_wouldBe (v1 : Int32) (μ : MM) (Q : Int64 → MM → Prop) : Prop :=
  vp_in v1 4 ∧ G12_power ((gI μ 387 v1.toNatClampNeg).toInt64) (gI μ 391 0) μ (fun r17 μ16 => vp_in v1 4 ∧ G12_power ((100 - (gI μ16 387 v1.toNatClampNeg)).toInt64) ((gI μ16 390 0) - (gI μ16 391 0)) μ16 (fun r20 μ19 => Bd (r17 * r20) fun y21 => vp_in v1 4 ∧ G12_power ((gI μ19 388 v1.toNatClampNeg).toInt64) (gI μ19 391 1) μ19 (fun r24 μ23 => vp_in v1 4 ∧ G12_power ((100 - (gI μ23 388 v1.toNatClampNeg)).toInt64) ((gI μ23 390 1) - (gI μ23 391 1)) μ23 (fun r27 μ26 => Bd (r24 * r27) fun y28 => Q (y21 * y28) μ26))))
def G12_allKinds_L4    (Q : Int64 → MM → Prop) (K4 : Int64 × Int32 × MM → Prop) (x : Int64 × Int32 × MM) : Prop :=
  ((4 ≤ x.2.1 → Q x.1 x.2.2) ∧ (¬ (4 ≤ x.2.1) → vp_in x.2.1 4 ∧ G12_wouldBe x.2.1 x.2.2 (fun r8 μ7 => Bd (x.1 + (((gI x.2.2 389 x.2.1.toNatClampNeg).toInt64) * r8)) fun y9 => K4 (y9, (x.2.1 + 1), μ7))))
def G12_allKinds  (μ : MM) (Q : Int64 → MM → Prop) : Prop :=
  Lp (G12_allKinds_L4 Q) (0, 0, μ)
def G12_likelyOf (v1 : Int32) (μ : MM) (Q : Int64 → MM → Prop) : Prop :=
  vp_in v1 4 ∧ G12_wouldBe v1 μ (fun r9 μ8 => G12_allKinds μ8 (fun r11 μ10 => ¬ r11 = 0 ∧ Q ((((1000000 * (gI μ 389 v1.toNatClampNeg)).toInt64) * r9) / r11) μ10))
def G12_likely (v1 : Int32) (v2 : Int32) (μ : MM) (Q : Int32 → MM → Prop) : Prop :=
  Bd (sI μ 358 0 0) fun μ12 => G12_isHouse v1 μ12 (fun r14 μ13 => ((r14 = 0 → Q (-1) μ13) ∧ (¬ (r14 = 0) → G12_isKind v2 μ13 (fun r17 μ16 => ((¬ r17 = 0 → G12_countsHouse v1 μ16 (fun r20 μ19 => G12_allKinds μ19 (fun r22 μ21 => ((¬ (lg_cmp r22 0) = 0 → G12_likelyOf v2 μ21 (fun r25 μ24 => Q (r25.toInt32) μ24)) ∧ ((lg_cmp r22 0) = 0 → Q (-2) μ21))))) ∧ (r17 = 0 → Q (-1) μ16))))))
def G12_becomes_L2 (a0 : Nat) (a1 : Nat)   (Q : MM → Prop) (K2 : Int32 × MM → Prop) (x : Int32 × MM) : Prop :=
  vp_in 0 (ln a1) ∧ (((gI x.2 a1 0) < x.1 → Q x.2) ∧ (¬ ((gI x.2 a1 0) < x.1) → vp_in x.1 (ln a1) ∧ vp_in x.1 (ln a0) ∧ Bd (sI x.2 a0 x.1.toNatClampNeg (gI x.2 a1 x.1.toNatClampNeg)) fun μ9 => K2 ((x.1 + 1), μ9)))
def G12_becomes (a0 : Nat) (a1 : Nat) (μ : MM) (Q : MM → Prop) : Prop :=
  Lp (G12_becomes_L2 a0 a1 Q) (0, μ)
def G12_isSmall (a0 : Nat) (v1 : Int32) (μ : MM) (Q : MM → Prop) : Prop :=
  vp_in 0 (ln a0) ∧ Bd (sI μ a0 0 1) fun μ6 => vp_in 1 (ln a0) ∧ Bd (sI μ6 a0 1 v1) fun μ8 => Q μ8
def G12_times_L78 (a0 : Nat)   (Q : MM → Prop) (K78 : MM → Prop) (x : MM) : Prop :=
  vp_in 0 (ln a0) ∧ (((gI x a0 0) ≤ 1 → Q x) ∧ (¬ ((gI x a0 0) ≤ 1) → vp_in 0 (ln a0) ∧ vp_in (gI x a0 0) (ln a0) ∧ ((¬ (gI x a0 ((gI x a0 0).toNatClampNeg)) = 0 → Q x) ∧ ((gI x a0 ((gI x a0 0).toNatClampNeg)) = 0 → vp_in 0 (ln a0) ∧ vp_in 0 (ln a0) ∧ Bd (sI x a0 0 ((gI x a0 0) - 1)) fun μ30 => K78 μ30))))
def G12_times_L45 (a0 : Nat)   (Q : MM → Prop) (K45 : Int64 × MM → Prop) (x : Int64 × MM) : Prop :=
  (((lg_cmp x.1 0) ≤ 0 → Lp (G12_times_L78 a0 Q) x.2) ∧ (¬ ((lg_cmp x.1 0) ≤ 0) → vp_in 0 (ln a0) ∧ vp_in 0 (ln a0) ∧ Bd (sI x.2 a0 0 ((gI x.2 a0 0) + 1)) fun μ33 => vp_in 0 (ln a0) ∧ vp_in (gI μ33 a0 0) (ln a0) ∧ Bd (sI μ33 a0 ((gI μ33 a0 0).toNatClampNeg) ((x.1 - x.1 / 10000 * 10000).toInt32)) fun μ36 => Bd (x.1 / 10000) fun y37 => K45 (y37, μ36)))
def G12_times_L5 (a0 : Nat) (p1 : Int64)  (Q : MM → Prop) (K5 : Int64 × Int32 × MM → Prop) (x : Int64 × Int32 × MM) : Prop :=
  vp_in 0 (ln a0) ∧ (((gI x.2.2 a0 0) < x.2.1 → Lp (G12_times_L45 a0 Q) (x.1, x.2.2)) ∧ (¬ ((gI x.2.2 a0 0) < x.2.1) → vp_in x.2.1 (ln a0) ∧ Bd (x.1 + (((gI x.2.2 a0 x.2.1.toNatClampNeg).toInt64) * p1)) fun y39 => vp_in x.2.1 (ln a0) ∧ Bd (sI x.2.2 a0 x.2.1.toNatClampNeg ((y39 - y39 / 10000 * 10000).toInt32)) fun μ41 => Bd (y39 / 10000) fun y42 => K5 (y42, (x.2.1 + 1), μ41)))
def G12_times (a0 : Nat) (v1 : Int64) (μ : MM) (Q : MM → Prop) : Prop :=
  Lp (G12_times_L5 a0 v1 Q) (0, 1, μ)
def G12_adds_J53 (a0 : Nat) (a1 : Nat) (p2 : Int32) (p3 : Int32) (p4 : Int32) (q0 : Int32) (q1 : Int32) (μ : MM) (K15 : Int32 × Int32 × MM → Prop) (Q : MM → Prop) : Prop :=
  Bd ((q1 + q0) + p3) fun y37 => vp_in p4 (ln a0) ∧ Bd (sI μ a0 p4.toNatClampNeg (y37 - y37 / 10000 * 10000)) fun μ39 => Bd (y37 / 10000) fun y40 => K15 (y40, (p4 + 1), μ39)
def G12_adds_J37 (a0 : Nat) (a1 : Nat) (p2 : Int32) (p3 : Int32) (p4 : Int32) (q0 : Int32) (μ : MM) (K15 : Int32 × Int32 × MM → Prop) (Q : MM → Prop) : Prop :=
  vp_in 0 (ln a1) ∧ (((gI μ a1 0) < p4 → G12_adds_J53 a0 a1 p2 p3 p4 0 q0 μ K15 Q) ∧ (¬ ((gI μ a1 0) < p4) → vp_in p4 (ln a1) ∧ G12_adds_J53 a0 a1 p2 p3 p4 (gI μ a1 p4.toNatClampNeg) q0 μ K15 Q))
def G12_adds_L15 (a0 : Nat) (a1 : Nat) (p2 : Int32)  (Q : MM → Prop) (K15 : Int32 × Int32 × MM → Prop) (x : Int32 × Int32 × MM) : Prop :=
  ((p2 < x.2.1 → vp_in 0 (ln a0) ∧ Bd (sI x.2.2 a0 0 p2) fun μ25 => ((x.1 ≤ 0 → Q μ25) ∧ (¬ (x.1 ≤ 0) → vp_in 0 (ln a0) ∧ vp_in 0 (ln a0) ∧ Bd (sI μ25 a0 0 ((gI μ25 a0 0) + 1)) fun μ29 => vp_in 0 (ln a0) ∧ vp_in (gI μ29 a0 0) (ln a0) ∧ Bd (sI μ29 a0 ((gI μ29 a0 0).toNatClampNeg) x.1) fun μ32 => Q μ32))) ∧ (¬ (p2 < x.2.1) → vp_in 0 (ln a0) ∧ (((gI x.2.2 a0 0) < x.2.1 → G12_adds_J37 a0 a1 p2 x.1 x.2.1 0 x.2.2 K15 Q) ∧ (¬ ((gI x.2.2 a0 0) < x.2.1) → vp_in x.2.1 (ln a0) ∧ G12_adds_J37 a0 a1 p2 x.1 x.2.1 (gI x.2.2 a0 x.2.1.toNatClampNeg) x.2.2 K15 Q))))
def G12_adds (a0 : Nat) (a1 : Nat) (μ : MM) (Q : MM → Prop) : Prop :=
  vp_in 0 (ln a0) ∧ vp_in 0 (ln a1) ∧ Bd (if (gI μ a0 0) < (gI μ a1 0) then (gI μ a1 0) else (gI μ a0 0)) fun y22 => Lp (G12_adds_L15 a0 a1 y22 Q) (0, 1, μ)
def G12_comparesGreat_L28 (a0 : Nat) (a1 : Nat)   (Q : Int32 → MM → Prop) (K28 : Int32 × MM → Prop) (x : Int32 × MM) : Prop :=
  ((x.1 ≤ 0 → Q 0 x.2) ∧ (¬ (x.1 ≤ 0) → vp_in x.1 (ln a0) ∧ vp_in x.1 (ln a1) ∧ (((gI x.2 a0 x.1.toNatClampNeg) = (gI x.2 a1 x.1.toNatClampNeg) → K28 ((x.1 + (-1)), x.2)) ∧ (¬ ((gI x.2 a0 x.1.toNatClampNeg) = (gI x.2 a1 x.1.toNatClampNeg)) → vp_in x.1 (ln a0) ∧ vp_in x.1 (ln a1) ∧ (((gI x.2 a1 x.1.toNatClampNeg) ≤ (gI x.2 a0 x.1.toNatClampNeg) → Q 1 x.2) ∧ (¬ ((gI x.2 a1 x.1.toNatClampNeg) ≤ (gI x.2 a0 x.1.toNatClampNeg)) → Q (-1) x.2))))))
def G12_comparesGreat (a0 : Nat) (a1 : Nat) (μ : MM) (Q : Int32 → MM → Prop) : Prop :=
  vp_in 0 (ln a0) ∧ vp_in 0 (ln a1) ∧ (((gI μ a0 0) = (gI μ a1 0) → vp_in 0 (ln a0) ∧ Bd (gI μ a0 0) fun y15 => Lp (G12_comparesGreat_L28 a0 a1 Q) (y15, μ)) ∧ (¬ ((gI μ a0 0) = (gI μ a1 0)) → vp_in 0 (ln a0) ∧ vp_in 0 (ln a1) ∧ (((gI μ a1 0) ≤ (gI μ a0 0) → Q 1 μ) ∧ (¬ ((gI μ a1 0) ≤ (gI μ a0 0)) → Q (-1) μ))))
def G12_fit_L311  (p1 : Int32)  (Q : Int32 → MM → Prop) (K311 : Int32 × MM → Prop) (x : Int32 × MM) : Prop :=
  ((4 ≤ x.1 → Q p1 x.2) ∧ (¬ (4 ≤ x.1) → vp_in x.1 4 ∧ G12_enters ((gI x.2 396 x.1.toNatClampNeg).toInt64) x.2 (fun μ36 => K311 ((x.1 + 1), μ36))))
def G12_fit_L253  (p1 : Int32) (p2 : Int32) (K72 : Int32 × MM → Prop) (Q : Int32 → MM → Prop) (K253 : Int32 × MM → Prop) (x : Int32 × MM) : Prop :=
  ((4 ≤ x.1 → K72 ((p2 + 1), x.2)) ∧ (¬ (4 ≤ x.1) → vp_in x.1 4 ∧ vp_in x.1 4 ∧ Bd (sI x.2 396 x.1.toNatClampNeg (gI x.2 395 x.1.toNatClampNeg)) fun μ53 => K253 ((x.1 + 1), μ53)))
def G12_fit_L174  (p1 : Int32) (p2 : Int32) (p3 : Int32) (K72 : Int32 × MM → Prop) (K163 : Int32 × MM → Prop) (Q : Int32 → MM → Prop) (K174 : Int64 × Int32 × MM → Prop) (x : Int64 × Int32 × MM) : Prop :=
  ((4 ≤ x.2.1 → G12_times 392 x.1 x.2.2 (fun μ55 => K163 ((p3 + 1), μ55))) ∧ (¬ (4 ≤ x.2.1) → vp_in x.2.1 4 ∧ vp_in ((4 * p3) + x.2.1) 96 ∧ Bd (x.1 + (((gI x.2.2 395 x.2.1.toNatClampNeg).toInt64) * (gJ x.2.2 394 (((4 * p3) + x.2.1).toNatClampNeg)))) fun y58 => K174 (y58, (x.2.1 + 1), x.2.2)))
def G12_fit_L163  (p1 : Int32) (p2 : Int32) (K72 : Int32 × MM → Prop) (Q : Int32 → MM → Prop) (K163 : Int32 × MM → Prop) (x : Int32 × MM) : Prop :=
  ((p1 ≤ x.1 → G12_comparesGreat 392 393 x.2 (fun r47 μ46 => ((r47 ≤ 0 → K72 ((p2 + 1), μ46)) ∧ (¬ (r47 ≤ 0) → G12_becomes 393 392 μ46 (fun μ49 => Lp (G12_fit_L253 p1 p2 K72 Q) (0, μ49)))))) ∧ (¬ (p1 ≤ x.1) → Lp (G12_fit_L174 p1 p2 x.1 K72 K163 Q) (0, 0, x.2)))
def G12_fit_L72  (p1 : Int32)  (Q : Int32 → MM → Prop) (K72 : Int32 × MM → Prop) (x : Int32 × MM) : Prop :=
  ((1331 ≤ x.1 → ((¬ (gI x.2 393 0) = 1 → Bd (sI x.2 358 1 0) fun μ33 => Lp (G12_fit_L311 p1 Q) (0, μ33)) ∧ ((gI x.2 393 0) = 1 → ((¬ (gI x.2 393 1) = 0 → Bd (sI x.2 358 1 0) fun μ38 => Lp (G12_fit_L311 p1 Q) (0, μ38)) ∧ ((gI x.2 393 1) = 0 → Q (-2) x.2))))) ∧ (¬ (1331 ≤ x.1) → Bd (sI x.2 395 0 (x.1 / 121)) fun μ39 => Bd (sI μ39 395 1 ((x.1 / 11) - (x.1 / 11) / 11 * 11)) fun μ40 => Bd (sI μ40 395 2 (x.1 - x.1 / 11 * 11)) fun μ41 => Bd (sI μ41 395 3 (((10 - (gI μ41 395 0)) - (gI μ41 395 1)) - (gI μ41 395 2))) fun μ42 => ((0 ≤ (gI μ42 395 3) → G12_isSmall 392 1 μ42 (fun μ44 => Lp (G12_fit_L163 p1 x.1 K72 Q) (0, μ44))) ∧ (¬ (0 ≤ (gI μ42 395 3)) → K72 ((x.1 + 1), μ42)))))
def G12_fit_L27  (p1 : Int32) (p2 : Int32) (K9 : Int32 × Int32 × MM → Prop) (Q : Int32 → MM → Prop) (K27 : Int32 × MM → Prop) (x : Int32 × MM) : Prop :=
  ((4 ≤ x.1 → K9 ((p1 + 1), (p2 + 1), x.2)) ∧ (¬ (4 ≤ x.1) → G12_wouldBe x.1 x.2 (fun r64 μ63 => vp_in ((4 * p1) + x.1) 96 ∧ Bd (sJ μ63 394 (((4 * p1) + x.1).toNatClampNeg) r64) fun μ66 => K27 ((x.1 + 1), μ66))))
def G12_fit_L9    (Q : Int32 → MM → Prop) (K9 : Int32 × Int32 × MM → Prop) (x : Int32 × Int32 × MM) : Prop :=
  (((gI x.2.2 358 8) ≤ x.2.1 → G12_isSmall 393 0 x.2.2 (fun μ30 => Lp (G12_fit_L72 x.1 Q) (0, μ30))) ∧ (¬ ((gI x.2.2 358 8) ≤ x.2.1) → G12_countsHouse x.2.1 x.2.2 (fun r60 μ59 => ((r60 ≤ 0 → K9 (x.1, (x.2.1 + 1), μ59)) ∧ (¬ (r60 ≤ 0) → Lp (G12_fit_L27 x.1 x.2.1 K9 Q) (0, μ59))))))
def G12_fit  (μ : MM) (Q : Int32 → MM → Prop) : Prop :=
  Bd (sI μ 358 0 0) fun μ28 => Lp (G12_fit_L9 Q) (0, 0, μ28)
def G12_likelies_L48  (p1 : Int32) (p2 : Int32) (K2 : Int32 × MM → Prop) (Q : MM → Prop) (K48 : Int32 × MM → Prop) (x : Int32 × MM) : Prop :=
  ((4 ≤ x.1 → K2 ((p2 + 1), x.2)) ∧ (¬ (4 ≤ x.1) → vp_in p2 24 ∧ G12_has p1 x.1 x.2 (fun r32 μ31 => ((r32 = 0 → vp_in p2 24 ∧ Bd (sJ μ31 397 p2.toNatClampNeg ((gJ x.2 397 p2.toNatClampNeg) + 0)) fun μ35 => K48 ((x.1 + 1), μ35)) ∧ (¬ (r32 = 0) → G12_likelyOf x.1 μ31 (fun r37 μ36 => vp_in p2 24 ∧ Bd (sJ μ36 397 p2.toNatClampNeg ((gJ x.2 397 p2.toNatClampNeg) + r37)) fun μ39 => K48 ((x.1 + 1), μ39)))))))
def G12_likelies_L2  (p1 : Int32)  (Q : MM → Prop) (K2 : Int32 × MM → Prop) (x : Int32 × MM) : Prop :=
  (((gI x.2 358 8) ≤ x.1 → Q x.2) ∧ (¬ ((gI x.2 358 8) ≤ x.1) → vp_in x.1 24 ∧ Bd (sJ x.2 397 x.1.toNatClampNeg (-1)) fun μ20 => G12_countsHouse x.1 μ20 (fun r22 μ21 => ((r22 = 0 → K2 ((x.1 + 1), μ21)) ∧ (¬ (r22 = 0) → G12_allKinds μ21 (fun r25 μ24 => ((¬ (lg_cmp r25 0) = 0 → vp_in x.1 24 ∧ Bd (sJ μ24 397 x.1.toNatClampNeg 0) fun μ28 => Lp (G12_likelies_L48 p1 x.1 K2 Q) (0, μ28)) ∧ ((lg_cmp r25 0) = 0 → K2 ((x.1 + 1), μ24)))))))))
def G12_likelies (v1 : Int32) (μ : MM) (Q : MM → Prop) : Prop :=
  Lp (G12_likelies_L2 v1 Q) (0, μ)
def G12_named_J150  (p2 : Int32) (p3 : Int32) (p4 : Int64) (p8 : Int32) (q0 : Int64) (q1 : Int64) (μ : MM) (K47 : Int32 × Int64 × Int64 × Int32 × MM → Prop) (Q : Int32 → MM → Prop) : Prop :=
  Bd (q1 + q0) fun y45 => K47 (p3, p4, y45, (p8 + 1), μ)
def G12_named_J129  (p2 : Int32) (p3 : Int32) (p6 : Int64) (p8 : Int32) (p9 : Int32) (q0 : Int64) (q1 : Int64) (μ : MM) (K47 : Int32 × Int64 × Int64 × Int32 × MM → Prop) (Q : Int32 → MM → Prop) : Prop :=
  Bd (q1 + q0) fun y42 => ((p9 = 0 → vp_in p8 24 ∧ G12_named_J150 p2 p3 y42 p8 (gJ μ 397 p8.toNatClampNeg) p6 μ K47 Q) ∧ (¬ (p9 = 0) → G12_named_J150 p2 p3 y42 p8 0 p6 μ K47 Q))
def G12_named_J105  (p2 : Int32) (p4 : Int64) (p6 : Int64) (p8 : Int32) (p9 : Int32) (q0 : Int32) (q1 : Int32) (μ : MM) (K47 : Int32 × Int64 × Int64 × Int32 × MM → Prop) (Q : Int32 → MM → Prop) : Prop :=
  Bd (q1 ||| q0) fun y40 => ((p9 = 0 → G12_named_J129 p2 y40 p6 p8 p9 0 p4 μ K47 Q) ∧ (¬ (p9 = 0) → vp_in p8 24 ∧ G12_named_J129 p2 y40 p6 p8 p9 (1000000 - (gJ μ 397 p8.toNatClampNeg)) p4 μ K47 Q))
def G12_named_J89  (p2 : Int32) (p3 : Int32) (p4 : Int64) (p6 : Int64) (p8 : Int32) (q0 : Int32) (μ : MM) (K47 : Int32 × Int64 × Int64 × Int32 × MM → Prop) (Q : Int32 → MM → Prop) : Prop :=
  ((q0 = 0 → G12_named_J105 p2 p4 p6 p8 q0 0 p3 μ K47 Q) ∧ (¬ (q0 = 0) → G12_named_J105 p2 p4 p6 p8 q0 (1 <<< (p8 &&& 31)) p3 μ K47 Q))
def G12_named_L47  (p2 : Int32)  (Q : Int32 → MM → Prop) (K47 : Int32 × Int64 × Int64 × Int32 × MM → Prop) (x : Int32 × Int64 × Int64 × Int32 × MM) : Prop :=
  (((gI x.2.2.2.2 358 8) ≤ x.2.2.2.1 → Bd (sI x.2.2.2.2 358 1 0) fun μ29 => G12_enters (x.1.toInt64) μ29 (fun μ30 => G12_enters x.2.1 μ30 (fun μ31 => G12_enters x.2.2.1 μ31 (fun μ32 => GJ6_bitCount_0f7a4 x.1 μ32 (fun r34 μ33 => Q r34 μ33))))) ∧ (¬ ((gI x.2.2.2.2 358 8) ≤ x.2.2.2.1) → vp_in x.2.2.2.1 24 ∧ ((0 ≤ (lg_cmp (gJ x.2.2.2.2 397 x.2.2.2.1.toNatClampNeg) 0) → vp_in x.2.2.2.1 24 ∧ (((lg_cmp (gJ x.2.2.2.2 397 x.2.2.2.1.toNatClampNeg) (p2.toInt64)) < 0 → G12_named_J89 p2 x.1 x.2.1 x.2.2.1 x.2.2.2.1 0 x.2.2.2.2 K47 Q) ∧ (¬ ((lg_cmp (gJ x.2.2.2.2 397 x.2.2.2.1.toNatClampNeg) (p2.toInt64)) < 0) → G12_named_J89 p2 x.1 x.2.1 x.2.2.1 x.2.2.2.1 1 x.2.2.2.2 K47 Q))) ∧ (¬ (0 ≤ (lg_cmp (gJ x.2.2.2.2 397 x.2.2.2.1.toNatClampNeg) 0)) → K47 (x.1, x.2.1, x.2.2.1, (x.2.2.2.1 + 1), x.2.2.2.2)))))
def G12_named (v1 : Int32) (v2 : Int32) (μ : MM) (Q : Int32 → MM → Prop) : Prop :=
  Bd (sI μ 358 0 0) fun μ20 => G12_in (v1.toInt64) 1 15 μ20 (fun r22 μ21 => ((r22 = 0 → Q (-1) μ21) ∧ (¬ (r22 = 0) → G12_in (v2.toInt64) 0 1000000 μ21 (fun r25 μ24 => ((¬ r25 = 0 → G12_likelies v1 μ24 (fun μ27 => Lp (G12_named_L47 v2 Q) (0, 0, 0, 0, μ27))) ∧ (r25 = 0 → Q (-1) μ24))))))
def G12_sure_L51  (p2 : Int32) (p3 : Int32) (K38 : Int32 × MM → Prop) (Q : Int32 → MM → Prop) (K51 : Int64 × Int32 × MM → Prop) (x : Int64 × Int32 × MM) : Prop :=
  (((gI x.2.2 358 8) ≤ x.2.1 → ((0 < (lg_cmp x.1 (p2.toInt64)) → K38 ((p3 + 1000), x.2.2)) ∧ (¬ (0 < (lg_cmp x.1 (p2.toInt64))) → Q p3 x.2.2))) ∧ (¬ ((gI x.2.2 358 8) ≤ x.2.1) → vp_in x.2.1 24 ∧ (((lg_cmp (gJ x.2.2 397 x.2.1.toNatClampNeg) (p3.toInt64)) < 0 → Bd (x.1 + 0) fun y24 => K51 (y24, (x.2.1 + 1), x.2.2)) ∧ (¬ ((lg_cmp (gJ x.2.2 397 x.2.1.toNatClampNeg) (p3.toInt64)) < 0) → vp_in x.2.1 24 ∧ Bd (x.1 + (1000000 - (gJ x.2.2 397 x.2.1.toNatClampNeg))) fun y26 => K51 (y26, (x.2.1 + 1), x.2.2)))))
def G12_sure_L38  (p2 : Int32)  (Q : Int32 → MM → Prop) (K38 : Int32 × MM → Prop) (x : Int32 × MM) : Prop :=
  ((1000000 < x.1 → Q (-2) x.2) ∧ (¬ (1000000 < x.1) → Lp (G12_sure_L51 p2 x.1 K38 Q) (0, 0, x.2)))
def G12_sure (v1 : Int32) (v2 : Int32) (μ : MM) (Q : Int32 → MM → Prop) : Prop :=
  Bd (sI μ 358 0 0) fun μ11 => G12_in (v1.toInt64) 1 15 μ11 (fun r13 μ12 => ((r13 = 0 → Q (-1) μ12) ∧ (¬ (r13 = 0) → G12_in (v2.toInt64) 0 24000000 μ12 (fun r16 μ15 => ((¬ r16 = 0 → G12_likelies v1 μ15 (fun μ18 => Lp (G12_sure_L38 v2 Q) (0, μ18))) ∧ (r16 = 0 → Q (-1) μ15))))))
def G12_most_L105  (p1 : Int32) (p2 : Int32) (p4 : Int32) (p5 : Int32) (K91 : Int32 × Int32 × MM → Prop) (Q : Int32 → MM → Prop) (K105 : Int32 × Int32 × MM → Prop) (x : Int32 × Int32 × MM) : Prop :=
  (((gI x.2.2 358 8) ≤ x.2.1 → vp_in x.1 24 ∧ Bd (p5 + (gI x.2.2 398 x.1.toNatClampNeg)) fun y29 => vp_in x.1 24 ∧ Bd (sI x.2.2 398 x.1.toNatClampNeg 0) fun μ31 => K91 ((p4 + 1), y29, μ31)) ∧ (¬ ((gI x.2.2 358 8) ≤ x.2.1) → vp_in x.2.1 24 ∧ vp_in x.1 24 ∧ (((gI x.2.2 398 x.2.1.toNatClampNeg) ≤ (gI x.2.2 398 x.1.toNatClampNeg) → K105 (x.1, (x.2.1 + 1), x.2.2)) ∧ (¬ ((gI x.2.2 398 x.2.1.toNatClampNeg) ≤ (gI x.2.2 398 x.1.toNatClampNeg)) → K105 (x.2.1, (x.2.1 + 1), x.2.2)))))
def G12_most_L91  (p1 : Int32) (p2 : Int32)  (Q : Int32 → MM → Prop) (K91 : Int32 × Int32 × MM → Prop) (x : Int32 × Int32 × MM) : Prop :=
  ((p1 ≤ (2 * x.2.1) → Bd (sI x.2.2 358 1 0) fun μ24 => G12_enters (p2.toInt64) μ24 (fun μ25 => G12_enters (p1.toInt64) μ25 (fun μ26 => Q x.1 μ26))) ∧ (¬ (p1 ≤ (2 * x.2.1)) → Lp (G12_most_L105 p1 p2 x.1 x.2.1 K91 Q) (0, 1, x.2.2)))
def G12_most_J74  (p1 : Int32) (p4 : Int32) (q0 : Int32) (q1 : Int32) (μ : MM) (K17 : Int32 × Int32 × Int32 × MM → Prop) (Q : Int32 → MM → Prop) : Prop :=
  G12_flag q0 μ (fun r44 μ43 => Bd (q1 + r44) fun y45 => K17 (p1, y45, (p4 + 1), μ43))
def G12_most_L17    (Q : Int32 → MM → Prop) (K17 : Int32 × Int32 × Int32 × MM → Prop) (x : Int32 × Int32 × Int32 × MM) : Prop :=
  (((gI x.2.2.2 358 8) ≤ x.2.2.1 → Lp (G12_most_L91 x.1 x.2.1 Q) (0, 0, x.2.2.2)) ∧ (¬ ((gI x.2.2.2 358 8) ≤ x.2.2.1) → G12_countsHouse x.2.2.1 x.2.2.2 (fun r36 μ35 => vp_in x.2.2.1 24 ∧ Bd (sI μ35 398 x.2.2.1.toNatClampNeg (if 0 < ((gI μ35 391 0) - (gI μ35 391 1)) then ((gI μ35 391 0) - (gI μ35 391 1)) else 0)) fun μ38 => vp_in x.2.2.1 24 ∧ Bd (x.1 + (gI μ38 398 x.2.2.1.toNatClampNeg)) fun y40 => vp_in x.2.2.1 24 ∧ (((gI μ38 398 x.2.2.1.toNatClampNeg) ≤ 0 → G12_most_J74 y40 x.2.2.1 0 x.2.1 μ38 K17 Q) ∧ (¬ ((gI μ38 398 x.2.2.1.toNatClampNeg) ≤ 0) → G12_most_J74 y40 x.2.2.1 1 x.2.1 μ38 K17 Q)))))
def G12_most  (μ : MM) (Q : Int32 → MM → Prop) : Prop :=
  Bd (sI μ 358 0 0) fun μ21 => Lp (G12_most_L17 Q) (0, 0, 0, μ21)
def G12_both_L247  (p6 : Int64) (p10 : Int64) (p12 : Int64)  (Q : Int32 → MM → Prop) (K247 : Int32 × MM → Prop) (x : Int32 × MM) : Prop :=
  ((4 ≤ x.1 → G12_entersFraction p12 (p6 * p10) x.2 (fun μ50 => (((lg_cmp p12 0) ≤ 0 → ((0 ≤ (lg_cmp p12 0) → Q 0 μ50) ∧ (¬ (0 ≤ (lg_cmp p12 0)) → Q 2 μ50))) ∧ (¬ ((lg_cmp p12 0) ≤ 0) → Q 1 μ50)))) ∧ (¬ (4 ≤ x.1) → vp_in x.1 4 ∧ G12_enters ((gI x.2 400 x.1.toNatClampNeg).toInt64) x.2 (fun μ54 => vp_in x.1 4 ∧ G12_enters ((gI μ54 399 x.1.toNatClampNeg).toInt64) μ54 (fun μ56 => K247 ((x.1 + 1), μ56)))))
def G12_both_L140    (Q : Int32 → MM → Prop) (K140 : Int32 × MM → Prop) (x : Int32 × MM) : Prop :=
  ((4 ≤ x.1 → Bd ((((gI x.2 400 0).toInt64) * ((gI x.2 399 1).toInt64)) - (((gI x.2 400 1).toInt64) * ((gI x.2 399 0).toInt64))) fun y43 => Bd (((gI x.2 399 0).toInt64) * ((gI x.2 399 1).toInt64)) fun y44 => Bd ((((gI x.2 400 2).toInt64) * ((gI x.2 399 3).toInt64)) - (((gI x.2 400 3).toInt64) * ((gI x.2 399 2).toInt64))) fun y45 => Bd (((gI x.2 399 2).toInt64) * ((gI x.2 399 3).toInt64)) fun y46 => Bd ((y43 * y46) - (y45 * y44)) fun y47 => Bd (sI x.2 358 1 0) fun μ48 => Lp (G12_both_L247 y44 y46 y47 Q) (0, μ48)) ∧ (¬ (4 ≤ x.1) → vp_in x.1 4 ∧ ((¬ (gI x.2 399 x.1.toNatClampNeg) = 0 → K140 ((x.1 + 1), x.2)) ∧ ((gI x.2 399 x.1.toNatClampNeg) = 0 → Q (-2) x.2))))
def G12_both_J100  (p1 : Int32) (p4 : Int32) (q0 : Int32) (q1 : Int32) (μ : MM) (K57 : Int32 × MM → Prop) (Q : Int32 → MM → Prop) : Prop :=
  G12_flag q0 μ (fun r66 μ65 => Bd (q1 + r66) fun y67 => vp_in y67 4 ∧ vp_in y67 4 ∧ Bd (sI μ65 399 y67.toNatClampNeg ((gI μ65 399 y67.toNatClampNeg) + 1)) fun μ70 => vp_in y67 4 ∧ vp_in p4 96 ∧ G12_flag (gI μ70 374 p4.toNatClampNeg) μ70 (fun r74 μ73 => vp_in y67 4 ∧ Bd (sI μ73 400 y67.toNatClampNeg ((gI μ70 400 y67.toNatClampNeg) + r74)) fun μ76 => K57 ((p4 + 1), μ76)))
def G12_both_L57  (p1 : Int32)  (Q : Int32 → MM → Prop) (K57 : Int32 × MM → Prop) (x : Int32 × MM) : Prop :=
  (((gI x.2 358 12) ≤ x.1 → Lp (G12_both_L140 Q) (0, x.2)) ∧ (¬ ((gI x.2 358 12) ≤ x.1) → vp_in x.1 96 ∧ (((gI x.2 373 x.1.toNatClampNeg) = 0 → K57 ((x.1 + 1), x.2)) ∧ (¬ ((gI x.2 373 x.1.toNatClampNeg) = 0) → G12_peopleOf x.1 x.2 (fun r62 μ61 => vp_in x.1 96 ∧ ((p1 ≤ (gI μ61 369 x.1.toNatClampNeg) → G12_both_J100 p1 x.1 0 (2 * r62) μ61 K57 Q) ∧ (¬ (p1 ≤ (gI μ61 369 x.1.toNatClampNeg)) → G12_both_J100 p1 x.1 1 (2 * r62) μ61 K57 Q)))))))
def G12_both_L32  (p1 : Int32)  (Q : Int32 → MM → Prop) (K32 : Int32 × MM → Prop) (x : Int32 × MM) : Prop :=
  ((4 ≤ x.1 → Lp (G12_both_L57 p1 Q) (0, x.2)) ∧ (¬ (4 ≤ x.1) → vp_in x.1 4 ∧ Bd (sI x.2 399 x.1.toNatClampNeg 0) fun μ78 => vp_in x.1 4 ∧ Bd (sI μ78 400 x.1.toNatClampNeg 0) fun μ80 => K32 ((x.1 + 1), μ80)))
def G12_both (v1 : Int32) (μ : MM) (Q : Int32 → MM → Prop) : Prop :=
  Bd (sI μ 358 0 0) fun μ36 => G12_in (v1.toInt64) 1 99 μ36 (fun r38 μ37 => ((¬ r38 = 0 → Lp (G12_both_L32 v1 Q) (0, μ37)) ∧ (r38 = 0 → Q (-1) μ37)))
def G12_byWhat (v1 : Int32) (v2 : Int32) (μ : MM) (Q : Int32 → MM → Prop) : Prop :=
  ((¬ v1 = 0 → ((¬ v1 = 1 → ((¬ v1 = 2 → vp_in v2 96 ∧ Q (gI μ 370 v2.toNatClampNeg) μ) ∧ (v1 = 2 → vp_in v2 96 ∧ vp_in (gI μ 367 v2.toNatClampNeg) 24 ∧ Q (gI μ 365 ((gI μ 367 v2.toNatClampNeg).toNatClampNeg)) μ))) ∧ (v1 = 1 → vp_in v2 96 ∧ vp_in (gI μ 367 v2.toNatClampNeg) 24 ∧ Q (gI μ 364 ((gI μ 367 v2.toNatClampNeg).toNatClampNeg)) μ))) ∧ (v1 = 0 → vp_in v2 96 ∧ Q (gI μ 371 v2.toNatClampNeg) μ))
def G12_countsBy_L29  (p1 : Int32) (p2 : Int32)  (Q : MM → Prop) (K29 : Int32 × MM → Prop) (x : Int32 × MM) : Prop :=
  (((gI x.2 358 12) ≤ x.1 → Q x.2) ∧ (¬ ((gI x.2 358 12) ≤ x.1) → vp_in x.1 96 ∧ (((gI x.2 373 x.1.toNatClampNeg) = 0 → K29 ((x.1 + 1), x.2)) ∧ (¬ ((gI x.2 373 x.1.toNatClampNeg) = 0) → G12_byWhat p1 x.1 x.2 (fun r26 μ25 => ((¬ r26 = p2 → K29 ((x.1 + 1), μ25)) ∧ (r26 = p2 → G12_peopleOf x.1 μ25 (fun r29 μ28 => vp_in r29 2 ∧ vp_in r29 2 ∧ Bd (sI μ28 381 r29.toNatClampNeg ((gI μ28 381 r29.toNatClampNeg) + 1)) fun μ32 => G12_peopleOf x.1 μ32 (fun r34 μ33 => vp_in r34 2 ∧ vp_in x.1 96 ∧ G12_flag (gI μ33 374 x.1.toNatClampNeg) μ33 (fun r38 μ37 => vp_in r34 2 ∧ Bd (sI μ37 382 r34.toNatClampNeg ((gI μ33 382 r34.toNatClampNeg) + r38)) fun μ40 => K29 ((x.1 + 1), μ40)))))))))))
def G12_countsBy_L2  (p1 : Int32) (p2 : Int32)  (Q : MM → Prop) (K2 : Int32 × MM → Prop) (x : Int32 × MM) : Prop :=
  ((2 ≤ x.1 → Lp (G12_countsBy_L29 p1 p2 Q) (0, x.2)) ∧ (¬ (2 ≤ x.1) → vp_in x.1 2 ∧ Bd (sI x.2 381 x.1.toNatClampNeg 0) fun μ42 => vp_in x.1 2 ∧ Bd (sI μ42 382 x.1.toNatClampNeg 0) fun μ44 => K2 ((x.1 + 1), μ44)))
def G12_countsBy (v1 : Int32) (v2 : Int32) (μ : MM) (Q : MM → Prop) : Prop :=
  Lp (G12_countsBy_L2 v1 v2 Q) (0, μ)
def G12_sums (v1 : Int64) (v3 : Int64) (μ : MM) (Q : MM → Prop) : Prop :=
  G12_common (gJ μ 358 60) v3 μ (fun r15 μ14 => ¬ r15 = 0 ∧ ¬ r15 = 0 ∧ Bd (((gJ μ14 358 59) * (v3 / r15)) + (v1 * ((gJ μ14 358 60) / r15))) fun y18 => ¬ r15 = 0 ∧ Bd (((gJ μ14 358 60) / r15) * v3) fun y20 => G12_common y18 y20 μ14 (fun r22 μ21 => ¬ r22 = 0 ∧ Bd (sJ μ21 358 59 (y18 / r22)) fun μ24 => ¬ r22 = 0 ∧ Bd (sJ μ24 358 60 (y20 / r22)) fun μ26 => Q μ26))
def G12_explains_L33  (p1 : Int32)  (Q : Int32 → MM → Prop) (K33 : Int32 × Int32 × MM → Prop) (x : Int32 × Int32 × MM) : Prop :=
  ((10 ≤ x.2.1 → ((¬ x.1 = 0 → G12_common (gJ x.2.2 358 59) ((gJ x.2.2 358 60) * (x.1.toInt64)) x.2.2 (fun r35 μ34 => ¬ r35 = 0 ∧ Bd ((gJ μ34 358 59) / r35) fun y37 => ¬ r35 = 0 ∧ Bd (((gJ μ34 358 60) * (x.1.toInt64)) / r35) fun y39 => G12_counts (-1) (-1) μ34 (fun μ40 => Bd (sJ μ40 358 59 ((((gI μ40 382 0) * (gI μ40 381 1)) - ((gI μ40 382 1) * (gI μ40 381 0))).toInt64)) fun μ41 => Bd (sJ μ41 358 60 (((gI μ41 381 0).toInt64) * ((gI μ41 381 1).toInt64))) fun μ42 => G12_sums (-y37) y39 μ42 (fun μ43 => Bd (sI μ43 358 1 0) fun μ44 => G12_enters y37 μ44 (fun μ45 => G12_enters y39 μ45 (fun μ46 => G12_enters (gJ μ46 358 59) μ46 (fun μ47 => G12_enters (gJ μ47 358 60) μ47 (fun μ48 => Q 0 μ48)))))))) ∧ (x.1 = 0 → Q (-2) x.2.2))) ∧ (¬ (10 ≤ x.2.1) → G12_countsBy p1 x.2.1 x.2.2 (fun μ49 => G12_areBoth μ49 (fun r51 μ50 => ((r51 = 0 → K33 (x.1, (x.2.1 + 1), μ50)) ∧ (¬ (r51 = 0) → G12_sums (((((gI μ50 382 0) * (gI μ50 381 1)) - ((gI μ50 382 1) * (gI μ50 381 0))).toInt64) * (((gI μ50 381 0) + (gI μ50 381 1)).toInt64)) (((gI μ50 381 0).toInt64) * ((gI μ50 381 1).toInt64)) μ50 (fun μ53 => Bd (x.1 + ((gI μ53 381 0) + (gI μ53 381 1))) fun y54 => K33 (y54, (x.2.1 + 1), μ53))))))))
def G12_explains (v1 : Int32) (μ : MM) (Q : Int32 → MM → Prop) : Prop :=
  Bd (sI μ 358 0 0) fun μ26 => G12_in (v1.toInt64) 0 3 μ26 (fun r28 μ27 => ((¬ r28 = 0 → Bd (sJ μ27 358 59 0) fun μ30 => Bd (sJ μ30 358 60 1) fun μ31 => Lp (G12_explains_L33 v1 Q) (0, 0, μ31)) ∧ (r28 = 0 → Q (-1) μ27)))
def G12_join_L156  (p2 : Int32) (p3 : Int64) (p5 : Int64)  (Q : Int32 → MM → Prop) (K156 : Int32 × MM → Prop) (x : Int32 × MM) : Prop :=
  ((4 ≤ x.1 → Bd (sI x.2 358 1 0) fun μ35 => G12_entersFraction ((gJ μ35 358 59) * p5) ((gJ μ35 358 60) * p3) μ35 (fun μ36 => Q 0 μ36)) ∧ (¬ (4 ≤ x.1) → G12_countsBy p2 x.1 x.2 (fun μ37 => ((((gI μ37 381 0) + (gI μ37 381 1)) ≤ 0 → K156 ((x.1 + 1), μ37)) ∧ (¬ (((gI μ37 381 0) + (gI μ37 381 1)) ≤ 0) → G12_sums (((gI μ37 382 0).toInt64) * (((gI μ37 381 1) - (gI μ37 382 1)).toInt64)) (((gI μ37 381 0) + (gI μ37 381 1)).toInt64) μ37 (fun μ39 => K156 ((x.1 + 1), μ39)))))))
def G12_join_L50  (p2 : Int32)  (Q : Int32 → MM → Prop) (K50 : Int32 × MM → Prop) (x : Int32 × MM) : Prop :=
  ((4 ≤ x.1 → Bd (gJ x.2 358 59) fun y29 => Bd (gJ x.2 358 60) fun y30 => ((¬ (lg_cmp y29 0) = 0 → Bd (sJ x.2 358 59 0) fun μ32 => Bd (sJ μ32 358 60 1) fun μ33 => Lp (G12_join_L156 p2 y29 y30 Q) (0, μ33)) ∧ ((lg_cmp y29 0) = 0 → Q (-2) x.2))) ∧ (¬ (4 ≤ x.1) → G12_countsBy p2 x.1 x.2 (fun μ40 => ((((gI μ40 381 0) + (gI μ40 381 1)) ≤ 0 → K50 ((x.1 + 1), μ40)) ∧ (¬ (((gI μ40 381 0) + (gI μ40 381 1)) ≤ 0) → G12_sums ((((gI μ40 381 0) - (gI μ40 382 0)).toInt64) * ((gI μ40 382 1).toInt64)) (((gI μ40 381 0) + (gI μ40 381 1)).toInt64) μ40 (fun μ42 => K50 ((x.1 + 1), μ42)))))))
def G12_join (v1 : Int32) (μ : MM) (Q : Int32 → MM → Prop) : Prop :=
  Bd (sI μ 358 0 0) fun μ20 => G12_in (v1.toInt64) 0 2 μ20 (fun r22 μ21 => ((¬ r22 = 0 → ((¬ v1 = 0 → ((¬ v1 = 1 → Bd (sJ μ21 358 59 0) fun μ26 => Bd (sJ μ26 358 60 1) fun μ27 => Lp (G12_join_L50 0 Q) (0, μ27)) ∧ (v1 = 1 → Bd (sJ μ21 358 59 0) fun μ43 => Bd (sJ μ43 358 60 1) fun μ44 => Lp (G12_join_L50 2 Q) (0, μ44)))) ∧ (v1 = 0 → Bd (sJ μ21 358 59 0) fun μ45 => Bd (sJ μ45 358 60 1) fun μ46 => Lp (G12_join_L50 1 Q) (0, μ46)))) ∧ (r22 = 0 → Q (-1) μ21)))
def G12_bounds_J108  (p1 : Int32) (p2 : Int32) (p3 : Int32) (p5 : Int32) (q0 : Int32) (q1 : Int32) (μ : MM) (K27 : Int32 × Int32 × Int32 × Int32 × MM → Prop) (Q : Int32 → MM → Prop) : Prop :=
  G12_flag q0 μ (fun r41 μ40 => Bd (q1 + r41) fun y42 => K27 (p2, p3, y42, (p5 + 1), μ40))
def G12_bounds_J107  (p1 : Int32) (p2 : Int32) (p3 : Int32) (p5 : Int32) (q0 : Int32) (μ : MM) (K27 : Int32 × Int32 × Int32 × Int32 × MM → Prop) (Q : Int32 → MM → Prop) : Prop :=
  G12_bounds_J108 p1 p2 p3 p5 0 q0 μ K27 Q
def G12_bounds_J76  (p1 : Int32) (p2 : Int32) (p4 : Int32) (p5 : Int32) (q0 : Int32) (q1 : Int32) (μ : MM) (K27 : Int32 × Int32 × Int32 × Int32 × MM → Prop) (Q : Int32 → MM → Prop) : Prop :=
  G12_flag q0 μ (fun r36 μ35 => Bd (q1 + r36) fun y37 => vp_in p5 96 ∧ (((gI μ35 374 p5.toNatClampNeg) = 0 → G12_bounds_J107 p1 p2 y37 p5 p4 μ35 K27 Q) ∧ (¬ ((gI μ35 374 p5.toNatClampNeg) = 0) → vp_in p5 96 ∧ ((¬ (gI μ35 375 p5.toNatClampNeg) = 0 → G12_bounds_J107 p1 p2 y37 p5 p4 μ35 K27 Q) ∧ ((gI μ35 375 p5.toNatClampNeg) = 0 → G12_bounds_J108 p1 p2 y37 p5 1 p4 μ35 K27 Q)))))
def G12_bounds_L27  (p1 : Int32)  (Q : Int32 → MM → Prop) (K27 : Int32 × Int32 × Int32 × Int32 × MM → Prop) (x : Int32 × Int32 × Int32 × Int32 × MM) : Prop :=
  (((gI x.2.2.2.2 358 12) ≤ x.2.2.2.1 → ((¬ x.1 = 0 → Bd (sI x.2.2.2.2 358 1 0) fun μ25 => G12_entersFraction (x.2.1.toInt64) (x.1.toInt64) μ25 (fun μ26 => G12_entersFraction ((x.2.1 + x.2.2.1).toInt64) (x.1.toInt64) μ26 (fun μ27 => Q x.2.2.1 μ27))) ∧ (x.1 = 0 → Q (-2) x.2.2.2.2))) ∧ (¬ ((gI x.2.2.2.2 358 12) ≤ x.2.2.2.1) → vp_in x.2.2.2.1 96 ∧ (((gI x.2.2.2.2 373 x.2.2.2.1.toNatClampNeg) = 0 → K27 (x.1, x.2.1, x.2.2.1, (x.2.2.2.1 + 1), x.2.2.2.2)) ∧ (¬ ((gI x.2.2.2.2 373 x.2.2.2.1.toNatClampNeg) = 0) → G12_peopleOf x.2.2.2.1 x.2.2.2.2 (fun r31 μ30 => ((¬ r31 = p1 → K27 (x.1, x.2.1, x.2.2.1, (x.2.2.2.1 + 1), μ30)) ∧ (r31 = p1 → vp_in x.2.2.2.1 96 ∧ ((¬ (gI μ30 375 x.2.2.2.1.toNatClampNeg) = 1 → G12_bounds_J76 p1 (x.1 + 1) x.2.2.1 x.2.2.2.1 0 x.2.1 μ30 K27 Q) ∧ ((gI μ30 375 x.2.2.2.1.toNatClampNeg) = 1 → G12_bounds_J76 p1 (x.1 + 1) x.2.2.1 x.2.2.2.1 1 x.2.1 μ30 K27 Q)))))))))
def G12_bounds (v1 : Int32) (μ : MM) (Q : Int32 → MM → Prop) : Prop :=
  Bd (sI μ 358 0 0) fun μ19 => G12_in (v1.toInt64) 0 1 μ19 (fun r21 μ20 => ((¬ r21 = 0 → Lp (G12_bounds_L27 v1 Q) (0, 0, 0, 0, μ20)) ∧ (r21 = 0 → Q (-1) μ20)))
def G12_countsWorth_L16  (p1 : Int32) (p2 : Int32)  (Q : MM → Prop) (K16 : Int32 × MM → Prop) (x : Int32 × MM) : Prop :=
  (((gI x.2 358 12) ≤ x.1 → Q x.2) ∧ (¬ ((gI x.2 358 12) ≤ x.1) → vp_in x.1 96 ∧ (((gI x.2 373 x.1.toNatClampNeg) = 0 → K16 ((x.1 + 1), x.2)) ∧ (¬ ((gI x.2 373 x.1.toNatClampNeg) = 0) → G12_peopleOf x.1 x.2 (fun r26 μ25 => ((¬ r26 = p1 → K16 ((x.1 + 1), μ25)) ∧ (r26 = p1 → vp_in x.1 96 ∧ (((gI μ25 369 x.1.toNatClampNeg) < p2 → K16 ((x.1 + 1), μ25)) ∧ (¬ ((gI μ25 369 x.1.toNatClampNeg) < p2) → vp_in p1 2 ∧ vp_in p1 2 ∧ Bd (sI μ25 381 p1.toNatClampNeg ((gI μ25 381 p1.toNatClampNeg) + 1)) fun μ32 => vp_in p1 2 ∧ vp_in x.1 96 ∧ G12_flag (gI μ32 374 x.1.toNatClampNeg) μ32 (fun r36 μ35 => vp_in p1 2 ∧ Bd (sI μ35 382 p1.toNatClampNeg ((gI μ32 382 p1.toNatClampNeg) + r36)) fun μ38 => K16 ((x.1 + 1), μ38)))))))))))
def G12_countsWorth (v1 : Int32) (v2 : Int32) (μ : MM) (Q : MM → Prop) : Prop :=
  vp_in v1 2 ∧ Bd (sI μ 381 v1.toNatClampNeg 0) fun μ19 => vp_in v1 2 ∧ Bd (sI μ19 382 v1.toNatClampNeg 0) fun μ21 => Lp (G12_countsWorth_L16 v1 v2 Q) (0, μ21)
def G12_years_L27  (p1 : Int32)  (Q : Int32 → MM → Prop) (K27 : Int32 × MM → Prop) (x : Int32 × MM) : Prop :=
  ((99 < x.1 → Q (-2) x.2) ∧ (¬ (99 < x.1) → G12_countsWorth 1 (p1 + x.1) x.2 (fun μ16 => G12_areBoth μ16 (fun r18 μ17 => ((r18 = 0 → K27 ((x.1 + 1), μ17)) ∧ (¬ (r18 = 0) → ((((gI μ17 382 1) * (gI μ17 381 0)) < ((gI μ17 382 0) * (gI μ17 381 1)) → K27 ((x.1 + 1), μ17)) ∧ (¬ (((gI μ17 382 1) * (gI μ17 381 0)) < ((gI μ17 382 0) * (gI μ17 381 1))) → Bd (sI μ17 358 1 0) fun μ21 => G12_entersFraction ((gI μ21 382 1).toInt64) ((gI μ21 381 1).toInt64) μ21 (fun μ22 => Q x.1 μ22)))))))))
def G12_years (v1 : Int32) (μ : MM) (Q : Int32 → MM → Prop) : Prop :=
  Bd (sI μ 358 0 0) fun μ10 => G12_in (v1.toInt64) 0 99 μ10 (fun r12 μ11 => ((¬ r12 = 0 → G12_countsWorth 0 v1 μ11 (fun μ14 => Lp (G12_years_L27 v1 Q) (0, μ14))) ∧ (r12 = 0 → Q (-1) μ11)))
def G12_mornings_J175  (p1 : Int32) (p2 : Int32) (p3 : Int32) (p4 : Int32) (p7 : Int32) (p8 : Int32) (μ : MM) (K55 : Int32 × Int32 × Int32 × Int32 × MM → Prop) (Q : Int32 → MM → Prop) : Prop :=
  K55 (p4, p7, p8, (p7 + 1), μ)
def G12_mornings_J146  (p1 : Int32) (p2 : Int32) (p3 : Int32) (p4 : Int32) (p5 : Int32) (p6 : Int32) (p7 : Int32) (p9 : Int32) (q0 : Int32) (q1 : Int32) (q2 : Int32) (μ : MM) (K55 : Int32 × Int32 × Int32 × Int32 × MM → Prop) (K70 : Int32 × Int32 × MM → Prop) (Q : Int32 → MM → Prop) : Prop :=
  Bd (q2 + (q1 + q0)) fun y44 => K70 (y44, (p9 + 1), μ)
def G12_mornings_J145  (p1 : Int32) (p2 : Int32) (p3 : Int32) (p4 : Int32) (p5 : Int32) (p6 : Int32) (p7 : Int32) (p9 : Int32) (q0 : Int32) (q1 : Int32) (μ : MM) (K55 : Int32 × Int32 × Int32 × Int32 × MM → Prop) (K70 : Int32 × Int32 × MM → Prop) (Q : Int32 → MM → Prop) : Prop :=
  G12_mornings_J146 p1 p2 p3 p4 p5 p6 p7 p9 0 q0 q1 μ K55 K70 Q
def G12_mornings_J119  (p1 : Int32) (p2 : Int32) (p3 : Int32) (p4 : Int32) (p5 : Int32) (p6 : Int32) (p7 : Int32) (p9 : Int32) (q0 : Int32) (q1 : Int32) (q2 : Int32) (μ : MM) (K55 : Int32 × Int32 × Int32 × Int32 × MM → Prop) (K70 : Int32 × Int32 × MM → Prop) (Q : Int32 → MM → Prop) : Prop :=
  vp_in p9 96 ∧ (((gI μ 374 p9.toNatClampNeg) = 0 → G12_mornings_J145 p1 p2 p3 p4 p5 p6 p7 p9 (q1 + q0) q2 μ K55 K70 Q) ∧ (¬ ((gI μ 374 p9.toNatClampNeg) = 0) → vp_in p9 96 ∧ ((¬ (gI μ 375 p9.toNatClampNeg) = 2 → G12_mornings_J145 p1 p2 p3 p4 p5 p6 p7 p9 (q1 + q0) q2 μ K55 K70 Q) ∧ ((gI μ 375 p9.toNatClampNeg) = 2 → G12_mornings_J146 p1 p2 p3 p4 p5 p6 p7 p9 p3 (q1 + q0) q2 μ K55 K70 Q))))
def G12_mornings_L70  (p1 : Int32) (p2 : Int32) (p3 : Int32) (p4 : Int32) (p5 : Int32) (p6 : Int32) (p7 : Int32) (K55 : Int32 × Int32 × Int32 × Int32 × MM → Prop) (Q : Int32 → MM → Prop) (K70 : Int32 × Int32 × MM → Prop) (x : Int32 × Int32 × MM) : Prop :=
  (((gI x.2.2 358 12) ≤ x.2.1 → Bd (p4 + x.1) fun y33 => ((p5 < 0 → G12_mornings_J175 p1 p2 p3 y33 p7 x.1 x.2.2 K55 Q) ∧ (¬ (p5 < 0) → ((x.1 ≤ p6 → K55 (y33, p5, p6, (p7 + 1), x.2.2)) ∧ (¬ (x.1 ≤ p6) → G12_mornings_J175 p1 p2 p3 y33 p7 x.1 x.2.2 K55 Q))))) ∧ (¬ ((gI x.2.2 358 12) ≤ x.2.1) → vp_in x.2.1 96 ∧ ((¬ (gI x.2.2 367 x.2.1.toNatClampNeg) = p7 → K70 (x.1, (x.2.1 + 1), x.2.2)) ∧ ((gI x.2.2 367 x.2.1.toNatClampNeg) = p7 → vp_in x.2.1 96 ∧ (((gI x.2.2 373 x.2.1.toNatClampNeg) = 0 → K70 (x.1, (x.2.1 + 1), x.2.2)) ∧ (¬ ((gI x.2.2 373 x.2.1.toNatClampNeg) = 0) → vp_in x.2.1 96 ∧ (((gI x.2.2 374 x.2.1.toNatClampNeg) = 0 → G12_mornings_J119 p1 p2 p3 p4 p5 p6 p7 x.2.1 0 p1 x.1 x.2.2 K55 K70 Q) ∧ (¬ ((gI x.2.2 374 x.2.1.toNatClampNeg) = 0) → G12_mornings_J119 p1 p2 p3 p4 p5 p6 p7 x.2.1 p2 p1 x.1 x.2.2 K55 K70 Q))))))))
def G12_mornings_L55  (p1 : Int32) (p2 : Int32) (p3 : Int32)  (Q : Int32 → MM → Prop) (K55 : Int32 × Int32 × Int32 × Int32 × MM → Prop) (x : Int32 × Int32 × Int32 × Int32 × MM) : Prop :=
  (((gI x.2.2.2.2 358 8) ≤ x.2.2.2.1 → Bd (sI x.2.2.2.2 358 1 0) fun μ29 => G12_enters (x.2.1.toInt64) μ29 (fun μ30 => G12_enters (x.2.2.1.toInt64) μ30 (fun μ31 => Q x.1 μ31))) ∧ (¬ ((gI x.2.2.2.2 358 8) ≤ x.2.2.2.1) → Lp (G12_mornings_L70 p1 p2 p3 x.1 x.2.1 x.2.2.1 x.2.2.2.1 K55 Q) (0, 0, x.2.2.2.2)))
def G12_mornings (v1 : Int32) (v2 : Int32) (v3 : Int32) (μ : MM) (Q : Int32 → MM → Prop) : Prop :=
  Bd (sI μ 358 0 0) fun μ18 => G12_in (v1.toInt64) 0 99 μ18 (fun r20 μ19 => ((r20 = 0 → Q (-1) μ19) ∧ (¬ (r20 = 0) → G12_in (v2.toInt64) 0 99 μ19 (fun r23 μ22 => ((r23 = 0 → Q (-1) μ22) ∧ (¬ (r23 = 0) → G12_in (v3.toInt64) 0 999 μ22 (fun r26 μ25 => ((¬ r26 = 0 → Lp (G12_mornings_L55 v1 v2 v3 Q) (0, (-1), 0, 0, μ25)) ∧ (r26 = 0 → Q (-1) μ25)))))))))
def G12_asked (v1 : Int32) (v2 : Int32) (v3 : Int32) (μ : MM) (Q : Int32 → MM → Prop) : Prop :=
  Bd (sI μ 358 0 0) fun μ15 => G12_isLetter v1 μ15 (fun r17 μ16 => ((r17 = 0 → Q (-1) μ16) ∧ (¬ (r17 = 0) → G12_isLetter v2 μ16 (fun r20 μ19 => ((r20 = 0 → Q (-1) μ19) ∧ (¬ (r20 = 0) → ((v1 = v2 → Q (-1) μ19) ∧ (¬ (v1 = v2) → G12_in (v3.toInt64) 0 2 μ19 (fun r24 μ23 => ((r24 = 0 → Q (-1) μ23) ∧ (¬ (r24 = 0) → ((¬ (gI μ23 358 61) = 40 → vp_in (gI μ23 358 61) 40 ∧ Bd (sI μ23 401 ((gI μ23 358 61).toNatClampNeg) v1) fun μ28 => vp_in (gI μ28 358 61) 40 ∧ Bd (sI μ28 402 ((gI μ28 358 61).toNatClampNeg) v2) fun μ30 => vp_in (gI μ30 358 61) 40 ∧ Bd (sI μ30 403 ((gI μ30 358 61).toNatClampNeg) v3) fun μ32 => Bd (sI μ32 358 61 ((gI μ32 358 61) + 1)) fun μ33 => Q (gI μ33 358 61) μ33) ∧ ((gI μ23 358 61) = 40 → Q (-1) μ23)))))))))))))
def G12_isAgainst (v1 : Int32) (v2 : Int32) (v3 : Int32) (v4 : Int32) (μ : MM) (Q : Int32 → MM → Prop) : Prop :=
  G12_countsNone μ (fun μ6 => G12_worked v1 v2 μ6 (fun r8 μ7 => G12_worked v1 v3 μ7 (fun r10 μ9 => ((¬ v4 = 1 → ((¬ v4 = 2 → ((r8 = r10 → Q 0 μ9) ∧ (¬ (r8 = r10) → Q 1 μ9))) ∧ (v4 = 2 → ((r8 ≤ r10 → Q 0 μ9) ∧ (¬ (r8 ≤ r10) → Q 1 μ9))))) ∧ (v4 = 1 → ((r10 ≤ r8 → Q 0 μ9) ∧ (¬ (r10 ≤ r8) → Q 1 μ9)))))))
def G12_against_L4  (p1 : Int32)  (Q : Int32 → MM → Prop) (K4 : Int32 × Int32 × MM → Prop) (x : Int32 × Int32 × MM) : Prop :=
  (((gI x.2.2 358 61) ≤ x.2.1 → Q x.1 x.2.2) ∧ (¬ ((gI x.2.2 358 61) ≤ x.2.1) → vp_in x.2.1 40 ∧ vp_in x.2.1 40 ∧ vp_in x.2.1 40 ∧ G12_isAgainst p1 (gI x.2.2 401 x.2.1.toNatClampNeg) (gI x.2.2 402 x.2.1.toNatClampNeg) (gI x.2.2 403 x.2.1.toNatClampNeg) x.2.2 (fun r14 μ13 => G12_flag r14 μ13 (fun r16 μ15 => Bd (x.1 + r16) fun y17 => K4 (y17, (x.2.1 + 1), μ15)))))
def G12_against (v1 : Int32) (μ : MM) (Q : Int32 → MM → Prop) : Prop :=
  Lp (G12_against_L4 v1 Q) (0, 0, μ)
def G12_couldBe_J35  (p1 : Int32) (p3 : Int32) (q0 : Int32) (μ : MM) (K4 : Int32 × Int32 × MM → Prop) (Q : Int32 → MM → Prop) : Prop :=
  Bd (q0 ||| 0) fun y9 => K4 (y9, (p3 + 1), μ)
def G12_couldBe_L4  (p1 : Int32)  (Q : Int32 → MM → Prop) (K4 : Int32 × Int32 × MM → Prop) (x : Int32 × Int32 × MM) : Prop :=
  ((6 ≤ x.2.1 → Q x.1 x.2.2) ∧ (¬ (6 ≤ x.2.1) → vp_in x.2.1 13 ∧ (((gI x.2.2 378 x.2.1.toNatClampNeg) ≤ 0 → G12_couldBe_J35 p1 x.2.1 x.1 x.2.2 K4 Q) ∧ (¬ ((gI x.2.2 378 x.2.1.toNatClampNeg) ≤ 0) → G12_against x.2.1 x.2.2 (fun r11 μ10 => ((p1 < r11 → G12_couldBe_J35 p1 x.2.1 x.1 μ10 K4 Q) ∧ (¬ (p1 < r11) → Bd (x.1 ||| (1 <<< (x.2.1 &&& 31))) fun y13 => K4 (y13, (x.2.1 + 1), μ10))))))))
def G12_couldBe (v1 : Int32) (μ : MM) (Q : Int32 → MM → Prop) : Prop :=
  Lp (G12_couldBe_L4 v1 Q) (0, 0, μ)
def G12_pairs_J40  (p1 : Int32) (q0 : Int64) (μ : MM) (K12 : Int32 × MM → Prop) (Q : Int32 → MM → Prop) : Prop :=
  G12_enters q0 μ (fun μ16 => K12 ((p1 + 1), μ16))
def G12_pairs_L12    (Q : Int32 → MM → Prop) (K12 : Int32 × MM → Prop) (x : Int32 × MM) : Prop :=
  ((6 ≤ x.1 → G12_couldBe 0 x.2 (fun r13 μ12 => Q r13 μ12)) ∧ (¬ (6 ≤ x.1) → vp_in x.1 13 ∧ (((gI x.2 378 x.1.toNatClampNeg) ≤ 0 → G12_pairs_J40 x.1 (-1) x.2 K12 Q) ∧ (¬ ((gI x.2 378 x.1.toNatClampNeg) ≤ 0) → G12_against x.1 x.2 (fun r18 μ17 => G12_pairs_J40 x.1 (r18.toInt64) μ17 K12 Q)))))
def G12_pairs  (μ : MM) (Q : Int32 → MM → Prop) : Prop :=
  Bd (sI μ 358 0 0) fun μ9 => Bd (sI μ9 358 1 0) fun μ10 => Lp (G12_pairs_L12 Q) (0, μ10)
def G12_ask_J157  (p1 : Int32) (p5 : Int32) (p6 : Int32) (p7 : Int32) (μ : MM) (K40 : Int32 × Int32 × Int32 × Int32 × MM → Prop) (K55 : Int32 × Int32 × Int32 × Int32 × MM → Prop) (Q : Int32 → MM → Prop) : Prop :=
  K55 (p7, p5, p6, (p6 + 1), μ)
def G12_ask_J120  (p1 : Int32) (p2 : Int32) (p3 : Int32) (p4 : Int32) (p5 : Int32) (p6 : Int32) (p7 : Int32) (p8 : Int32) (p10 : Int32) (q0 : Int32) (q1 : Int32) (μ : MM) (K40 : Int32 × Int32 × Int32 × Int32 × MM → Prop) (K55 : Int32 × Int32 × Int32 × Int32 × MM → Prop) (K70 : Int32 × Int32 × MM → Prop) (K82 : Int32 × Int32 × MM → Prop) (Q : Int32 → MM → Prop) : Prop :=
  G12_flag q0 μ (fun r40 μ39 => Bd (q1 + r40) fun y41 => K82 (y41, (p10 + 1), μ39))
def G12_ask_J119  (p1 : Int32) (p2 : Int32) (p3 : Int32) (p4 : Int32) (p5 : Int32) (p6 : Int32) (p7 : Int32) (p8 : Int32) (p10 : Int32) (q0 : Int32) (μ : MM) (K40 : Int32 × Int32 × Int32 × Int32 × MM → Prop) (K55 : Int32 × Int32 × Int32 × Int32 × MM → Prop) (K70 : Int32 × Int32 × MM → Prop) (K82 : Int32 × Int32 × MM → Prop) (Q : Int32 → MM → Prop) : Prop :=
  G12_ask_J120 p1 p2 p3 p4 p5 p6 p7 p8 p10 0 q0 μ K40 K55 K70 K82 Q
def G12_ask_L82  (p1 : Int32) (p2 : Int32) (p3 : Int32) (p4 : Int32) (p5 : Int32) (p6 : Int32) (p7 : Int32) (p8 : Int32) (K40 : Int32 × Int32 × Int32 × Int32 × MM → Prop) (K55 : Int32 × Int32 × Int32 × Int32 × MM → Prop) (K70 : Int32 × Int32 × MM → Prop) (Q : Int32 → MM → Prop) (K82 : Int32 × Int32 × MM → Prop) (x : Int32 × Int32 × MM) : Prop :=
  ((6 ≤ x.2.1 → Bd (if p7 < x.1 then x.1 else p7) fun y35 => K70 (y35, (p8 + 1), x.2.2)) ∧ (¬ (6 ≤ x.2.1) → G12_has p1 x.2.1 x.2.2 (fun r37 μ36 => ((r37 = 0 → G12_ask_J119 p1 p2 p3 p4 p5 p6 p7 p8 x.2.1 x.1 μ36 K40 K55 K70 K82 Q) ∧ (¬ (r37 = 0) → G12_isAgainst x.2.1 p5 p6 p8 μ36 (fun r43 μ42 => ((¬ r43 = 0 → G12_ask_J119 p1 p2 p3 p4 p5 p6 p7 p8 x.2.1 x.1 μ42 K40 K55 K70 K82 Q) ∧ (r43 = 0 → G12_ask_J120 p1 p2 p3 p4 p5 p6 p7 p8 x.2.1 1 x.1 μ42 K40 K55 K70 K82 Q))))))))
def G12_ask_L70  (p1 : Int32) (p2 : Int32) (p3 : Int32) (p4 : Int32) (p5 : Int32) (p6 : Int32) (K40 : Int32 × Int32 × Int32 × Int32 × MM → Prop) (K55 : Int32 × Int32 × Int32 × Int32 × MM → Prop) (Q : Int32 → MM → Prop) (K70 : Int32 × Int32 × MM → Prop) (x : Int32 × Int32 × MM) : Prop :=
  ((3 ≤ x.2.1 → ((p2 < 0 → G12_ask_J157 p1 p5 p6 x.1 x.2.2 K40 K55 Q) ∧ (¬ (p2 < 0) → ((p2 ≤ x.1 → K55 (p2, p3, p4, (p6 + 1), x.2.2)) ∧ (¬ (p2 ≤ x.1) → G12_ask_J157 p1 p5 p6 x.1 x.2.2 K40 K55 Q))))) ∧ (¬ (3 ≤ x.2.1) → Lp (G12_ask_L82 p1 p2 p3 p4 p5 p6 x.1 x.2.1 K40 K55 K70 Q) (0, 0, x.2.2)))
def G12_ask_L55  (p1 : Int32) (p5 : Int32) (K40 : Int32 × Int32 × Int32 × Int32 × MM → Prop) (Q : Int32 → MM → Prop) (K55 : Int32 × Int32 × Int32 × Int32 × MM → Prop) (x : Int32 × Int32 × Int32 × Int32 × MM) : Prop :=
  (((gI x.2.2.2.2 358 12) ≤ x.2.2.2.1 → K40 (x.1, x.2.1, x.2.2.1, (p5 + 1), x.2.2.2.2)) ∧ (¬ ((gI x.2.2.2.2 358 12) ≤ x.2.2.2.1) → Lp (G12_ask_L70 p1 x.1 x.2.1 x.2.2.1 p5 x.2.2.2.1 K40 K55 Q) (0, 0, x.2.2.2.2)))
def G12_ask_L40  (p1 : Int32)  (Q : Int32 → MM → Prop) (K40 : Int32 × Int32 × Int32 × Int32 × MM → Prop) (x : Int32 × Int32 × Int32 × Int32 × MM) : Prop :=
  (((gI x.2.2.2.2 358 12) ≤ x.2.2.2.1 → Bd (sI x.2.2.2.2 358 1 0) fun μ26 => G12_enters (x.2.1.toInt64) μ26 (fun μ27 => G12_enters (x.2.2.1.toInt64) μ27 (fun μ28 => Q x.1 μ28))) ∧ (¬ ((gI x.2.2.2.2 358 12) ≤ x.2.2.2.1) → Bd (x.2.2.2.1 + 1) fun y29 => Lp (G12_ask_L55 p1 x.2.2.2.1 K40 Q) (x.1, x.2.1, x.2.2.1, y29, x.2.2.2.2)))
def G12_ask  (μ : MM) (Q : Int32 → MM → Prop) : Prop :=
  Bd (sI μ 358 0 0) fun μ18 => G12_couldBe 0 μ18 (fun r20 μ19 => GJ6_bitCount_0f7a4 r20 μ19 (fun r22 μ21 => ((r22 < 2 → Q (-2) μ21) ∧ (¬ (r22 < 2) → ((2 ≤ (gI μ21 358 12) → Lp (G12_ask_L40 r20 Q) ((-1), 0, 0, 0, μ21)) ∧ (¬ (2 ≤ (gI μ21 358 12)) → Q (-2) μ21))))))
def G12_nearly (v1 : Int32) (μ : MM) (Q : Int32 → MM → Prop) : Prop :=
  Bd (sI μ 358 0 0) fun μ6 => G12_in (v1.toInt64) 0 40 μ6 (fun r8 μ7 => ((r8 = 0 → Q (-1) μ7) ∧ (¬ (r8 = 0) → G12_couldBe v1 μ7 (fun r11 μ10 => Q r11 μ10))))
def G12_laysAt_L2 (a2 : Nat) (p1 : Int32)  (Q : MM → Prop) (K2 : Int32 × MM → Prop) (x : Int32 × MM) : Prop :=
  ((80 ≤ x.1 → Q x.2) ∧ (¬ (80 ≤ x.1) → vp_in 0 (ln a2) ∧ (((gI x.2 a2 0) < x.1 → vp_in ((80 * p1) + x.1) 1360 ∧ Bd (sI x.2 404 (((80 * p1) + x.1).toNatClampNeg) 0) fun μ11 => K2 ((x.1 + 1), μ11)) ∧ (¬ ((gI x.2 a2 0) < x.1) → vp_in x.1 (ln a2) ∧ vp_in ((80 * p1) + x.1) 1360 ∧ Bd (sI x.2 404 (((80 * p1) + x.1).toNatClampNeg) (gI x.2 a2 x.1.toNatClampNeg)) fun μ14 => K2 ((x.1 + 1), μ14)))))
def G12_laysAt (v1 : Int32) (a2 : Nat) (μ : MM) (Q : MM → Prop) : Prop :=
  Lp (G12_laysAt_L2 a2 v1 Q) (0, μ)
def G12_takesFrom_L2 (a2 : Nat) (p1 : Int32)  (Q : MM → Prop) (K2 : Int32 × MM → Prop) (x : Int32 × MM) : Prop :=
  ((80 ≤ x.1 → Q x.2) ∧ (¬ (80 ≤ x.1) → vp_in ((80 * p1) + x.1) 1360 ∧ vp_in x.1 (ln a2) ∧ Bd (sI x.2 a2 x.1.toNatClampNeg (gI x.2 404 (((80 * p1) + x.1).toNatClampNeg))) fun μ7 => K2 ((x.1 + 1), μ7)))
def G12_takesFrom (v1 : Int32) (a2 : Nat) (μ : MM) (Q : MM → Prop) : Prop :=
  Lp (G12_takesFrom_L2 a2 v1 Q) (0, μ)
def G12_powers_J29  (p1 : Int32) (p2 : Int32) (p3 : Int32) (p4 : Int32) (q0 : Int64) (μ : MM) (K3 : Int32 × MM → Prop) (Q : MM → Prop) : Prop :=
  G12_times 405 q0 μ (fun μ4 => K3 ((p4 + 1), μ4))
def G12_powers_L3  (p1 : Int32) (p2 : Int32) (p3 : Int32)  (Q : MM → Prop) (K3 : Int32 × MM → Prop) (x : Int32 × MM) : Prop :=
  ((p3 ≤ x.1 → Q x.2) ∧ (¬ (p3 ≤ x.1) → ((p2 ≤ x.1 → G12_powers_J29 p1 p2 p3 x.1 ((100 - p1).toInt64) x.2 K3 Q) ∧ (¬ (p2 ≤ x.1) → G12_powers_J29 p1 p2 p3 x.1 (p1.toInt64) x.2 K3 Q))))
def G12_powers (v1 : Int32) (v2 : Int32) (v3 : Int32) (μ : MM) (Q : MM → Prop) : Prop :=
  Lp (G12_powers_L3 v1 v2 v3 Q) (0, μ)
def G12_chances_L115    (Q : MM → Prop) (K115 : Int32 × MM → Prop) (x : Int32 × MM) : Prop :=
  ((x.1 < 0 → Q x.2) ∧ (¬ (x.1 < 0) → G12_takesFrom x.1 392 x.2 (fun μ18 => G12_takesFrom (x.1 + 1) 405 μ18 (fun μ19 => G12_adds 392 405 μ19 (fun μ20 => G12_laysAt x.1 392 μ20 (fun μ21 => K115 ((x.1 + (-1)), μ21)))))))
def G12_chances_L22  (p1 : Int32) (p2 : Int32) (p3 : Int32) (p4 : Int32) (K3 : Int32 × MM → Prop) (Q : MM → Prop) (K22 : Int32 × MM → Prop) (x : Int32 × MM) : Prop :=
  ((p1 < x.1 → G12_laysAt p4 392 x.2 (fun μ24 => K3 ((p4 + 1), μ24))) ∧ (¬ (p1 < x.1) → G12_isSmall 405 1 x.2 (fun μ25 => G12_powers p2 x.1 p1 μ25 (fun μ26 => G12_powers p3 (x.1 - p4) p1 μ26 (fun μ27 => G12_choices p1 x.1 μ27 (fun r29 μ28 => G12_choices p1 (x.1 - p4) μ28 (fun r31 μ30 => G12_times 405 (r29 * r31) μ30 (fun μ32 => G12_adds 392 405 μ32 (fun μ33 => K22 ((x.1 + 1), μ33))))))))))
def G12_chances_L3  (p1 : Int32) (p2 : Int32) (p3 : Int32)  (Q : MM → Prop) (K3 : Int32 × MM → Prop) (x : Int32 × MM) : Prop :=
  ((16 < x.1 → Lp (G12_chances_L115 Q) (15, x.2)) ∧ (¬ (16 < x.1) → G12_isSmall 392 0 x.2 (fun μ22 => Lp (G12_chances_L22 p1 p2 p3 x.1 K3 Q) (x.1, μ22))))
def G12_chances (v1 : Int32) (v2 : Int32) (v3 : Int32) (μ : MM) (Q : MM → Prop) : Prop :=
  Lp (G12_chances_L3 v1 v2 v3 Q) (0, μ)
def G12_chanceOf_L37  (p2 : Int32)  (Q : Int32 → MM → Prop) (K37 : Int64 × Int32 × MM → Prop) (x : Int64 × Int32 × MM) : Prop :=
  ((x.2.1 ≤ p2 → Q (x.1.toInt32) x.2.2) ∧ (¬ (x.2.1 ≤ p2) → vp_in x.2.1 80 ∧ Bd ((x.1 * 10000) + ((gI x.2.2 392 x.2.1.toNatClampNeg).toInt64)) fun y12 => K37 (y12, (x.2.1 + (-1)), x.2.2)))
def G12_chanceOf (v1 : Int32) (v2 : Int32) (μ : MM) (Q : Int32 → MM → Prop) : Prop :=
  ((v1 ≤ 16 → G12_takesFrom v1 392 μ (fun μ7 => G12_times 392 1000000 μ7 (fun μ8 => Bd (gI μ8 392 0) fun y9 => Lp (G12_chanceOf_L37 v2 Q) (0, y9, μ8)))) ∧ (¬ (v1 ≤ 16) → Q 0 μ))
def G12_isPercent (v0 : Int32) (μ : MM) (Q : Int32 → MM → Prop) : Prop :=
  G12_in (v0.toInt64) 0 100 μ (fun r4 μ3 => bo r4 ∧ Q r4 μ3)
def G12_shows (v1 : Int32) (v2 : Int32) (v3 : Int32) (v4 : Int32) (μ : MM) (Q : Int32 → MM → Prop) : Prop :=
  Bd (sI μ 358 0 0) fun μ13 => G12_in (v1.toInt64) 1 16 μ13 (fun r15 μ14 => ((r15 = 0 → Q (-1) μ14) ∧ (¬ (r15 = 0) → G12_isPercent v2 μ14 (fun r18 μ17 => ((r18 = 0 → Q (-1) μ17) ∧ (¬ (r18 = 0) → G12_isPercent v3 μ17 (fun r21 μ20 => ((r21 = 0 → Q (-1) μ20) ∧ (¬ (r21 = 0) → G12_in (v4.toInt64) 1 16 μ20 (fun r24 μ23 => ((¬ r24 = 0 → G12_chances v1 v2 v3 μ23 (fun μ26 => G12_chanceOf v4 v1 μ26 (fun r28 μ27 => Q r28 μ27))) ∧ (r24 = 0 → Q (-1) μ23))))))))))))
def G12_least_L106  (p1 : Int32) (p2 : Int32) (p3 : Int32) (p4 : Int32) (p5 : Int32) (K49 : Int32 × MM → Prop) (Q : Int32 → MM → Prop) (K106 : Int32 × MM → Prop) (x : Int32 × MM) : Prop :=
  ((16 < x.1 → K49 ((p5 + 1), x.2)) ∧ (¬ (16 < x.1) → vp_in x.1 17 ∧ (((gI x.2 406 x.1.toNatClampNeg) < p3 → K106 ((x.1 + 1), x.2)) ∧ (¬ ((gI x.2 406 x.1.toNatClampNeg) < p3) → G12_chanceOf x.1 p5 x.2 (fun r42 μ41 => ((p4 < r42 → K106 ((x.1 + 1), μ41)) ∧ (¬ (p4 < r42) → Bd (sI μ41 358 1 0) fun μ44 => G12_enters (x.1.toInt64) μ44 (fun μ45 => Q p5 μ45))))))))
def G12_least_L67  (p1 : Int32) (p2 : Int32) (p3 : Int32) (p4 : Int32) (p5 : Int32) (K49 : Int32 × MM → Prop) (Q : Int32 → MM → Prop) (K67 : Int32 × MM → Prop) (x : Int32 × MM) : Prop :=
  ((16 < x.1 → G12_chances p5 p2 p2 x.2 (fun μ37 => Lp (G12_least_L106 p1 p2 p3 p4 p5 K49 Q) (1, μ37))) ∧ (¬ (16 < x.1) → G12_chanceOf x.1 p5 x.2 (fun r47 μ46 => vp_in x.1 17 ∧ Bd (sI μ46 406 x.1.toNatClampNeg r47) fun μ49 => K67 ((x.1 + 1), μ49))))
def G12_least_L49  (p1 : Int32) (p2 : Int32) (p3 : Int32) (p4 : Int32)  (Q : Int32 → MM → Prop) (K49 : Int32 × MM → Prop) (x : Int32 × MM) : Prop :=
  ((16 < x.1 → Q (-2) x.2) ∧ (¬ (16 < x.1) → G12_chances x.1 p1 p2 x.2 (fun μ35 => Lp (G12_least_L67 p1 p2 p3 p4 x.1 K49 Q) (1, μ35))))
def G12_least (v1 : Int32) (v2 : Int32) (v3 : Int32) (v4 : Int32) (μ : MM) (Q : Int32 → MM → Prop) : Prop :=
  Bd (sI μ 358 0 0) fun μ21 => G12_isPercent v1 μ21 (fun r23 μ22 => ((r23 = 0 → Q (-1) μ22) ∧ (¬ (r23 = 0) → G12_isPercent v2 μ22 (fun r26 μ25 => ((r26 = 0 → Q (-1) μ25) ∧ (¬ (r26 = 0) → G12_in (v3.toInt64) 1 1000000 μ25 (fun r29 μ28 => ((r29 = 0 → Q (-1) μ28) ∧ (¬ (r29 = 0) → G12_in (v4.toInt64) 0 1000000 μ28 (fun r32 μ31 => ((¬ r32 = 0 → Lp (G12_least_L49 v1 v2 v3 v4 Q) (1, μ31)) ∧ (r32 = 0 → Q (-1) μ31))))))))))))
def G12_keep_L41  (p1 : Int32)  (Q : Int32 → MM → Prop) (K41 : Int32 × MM → Prop) (x : Int32 × MM) : Prop :=
  (((gI x.2 358 12) ≤ x.1 → Q 1 x.2) ∧ (¬ ((gI x.2 358 12) ≤ x.1) → vp_in x.1 96 ∧ G12_flag (gI x.2 373 x.1.toNatClampNeg) x.2 (fun r28 μ27 => vp_in x.1 96 ∧ G12_flag (gI μ27 374 x.1.toNatClampNeg) μ27 (fun r31 μ30 => vp_in x.1 96 ∧ vp_in ((96 * p1) + x.1) 288 ∧ Bd (sI μ30 409 (((96 * p1) + x.1).toNatClampNeg) ((r28 + (2 * r31)) + (4 * (gI μ30 375 x.1.toNatClampNeg)))) fun μ34 => K41 ((x.1 + 1), μ34)))))
def G12_keep (v1 : Int32) (μ : MM) (Q : Int32 → MM → Prop) : Prop :=
  Bd (sI μ 358 0 0) fun μ17 => G12_in (v1.toInt64) 0 2 μ17 (fun r19 μ18 => ((¬ r19 = 0 → vp_in v1 3 ∧ Bd (sI μ18 407 v1.toNatClampNeg (gI μ18 358 12)) fun μ22 => vp_in v1 3 ∧ Bd (sI μ22 408 v1.toNatClampNeg (gI μ22 358 22)) fun μ24 => Lp (G12_keep_L41 v1 Q) (0, μ24)) ∧ (r19 = 0 → Q 0 μ18)))
def G12_again_L68  (p1 : Int32)  (Q : Int32 → MM → Prop) (K68 : Int32 × MM → Prop) (x : Int32 × MM) : Prop :=
  (((gI x.2 358 12) ≤ x.1 → Q 1 x.2) ∧ (¬ ((gI x.2 358 12) ≤ x.1) → vp_in ((96 * p1) + x.1) 288 ∧ Bd (gI x.2 409 (((96 * p1) + x.1).toNatClampNeg)) fun y38 => G12_has y38 0 x.2 (fun r40 μ39 => vp_in x.1 96 ∧ Bd (sI μ39 373 x.1.toNatClampNeg (vp_nar .boolean r40)) fun μ42 => G12_has y38 1 μ42 (fun r44 μ43 => vp_in x.1 96 ∧ Bd (sI μ43 374 x.1.toNatClampNeg (vp_nar .boolean r44)) fun μ46 => vp_in x.1 96 ∧ Bd (sI μ46 375 x.1.toNatClampNeg (y38 >>> (2 &&& 31))) fun μ48 => K68 ((x.1 + 1), μ48)))))
def G12_again (v1 : Int32) (μ : MM) (Q : Int32 → MM → Prop) : Prop :=
  Bd (sI μ 358 0 0) fun μ23 => G12_in (v1.toInt64) 0 2 μ23 (fun r25 μ24 => ((r25 = 0 → Q 0 μ24) ∧ (¬ (r25 = 0) → vp_in v1 3 ∧ (((gI μ24 407 v1.toNatClampNeg) < 0 → Q 0 μ24) ∧ (¬ ((gI μ24 407 v1.toNatClampNeg) < 0) → vp_in v1 3 ∧ (((gI μ24 407 v1.toNatClampNeg) ≤ (gI μ24 358 12) → vp_in v1 3 ∧ Bd (sI μ24 358 12 (gI μ24 407 v1.toNatClampNeg)) fun μ32 => vp_in v1 3 ∧ Bd (sI μ32 358 22 (gI μ32 408 v1.toNatClampNeg)) fun μ34 => Bd (sI μ34 358 61 0) fun μ35 => Lp (G12_again_L68 v1 Q) (0, μ35)) ∧ (¬ ((gI μ24 407 v1.toNatClampNeg) ≤ (gI μ24 358 12)) → Q 0 μ24)))))))
def G12_toldBits_L4  (p1 : Int32)  (Q : Int32 → MM → Prop) (K4 : Int32 × Int32 × MM → Prop) (x : Int32 × Int32 × MM) : Prop :=
  ((6 ≤ x.2.1 → Q x.1 x.2.2) ∧ (¬ (6 ≤ x.2.1) → vp_in (p1 + x.2.1) 13 ∧ (((gI x.2.2 378 ((p1 + x.2.1).toNatClampNeg)) ≤ 0 → Bd (x.1 ||| 0) fun y7 => K4 (y7, (x.2.1 + 1), x.2.2)) ∧ (¬ ((gI x.2.2 378 ((p1 + x.2.1).toNatClampNeg)) ≤ 0) → Bd (x.1 ||| (1 <<< (x.2.1 &&& 31))) fun y8 => K4 (y8, (x.2.1 + 1), x.2.2)))))
def G12_toldBits (v1 : Int32) (μ : MM) (Q : Int32 → MM → Prop) : Prop :=
  Lp (G12_toldBits_L4 v1 Q) (0, 0, μ)
def G12_rungMany_J36  (p2 : Int32) (q0 : Int32) (q1 : Int32) (μ : MM) (K4 : Int32 × Int32 × MM → Prop) (Q : Int32 → MM → Prop) : Prop :=
  G12_flag q0 μ (fun r10 μ9 => Bd (q1 + r10) fun y11 => K4 (y11, (p2 + 1), μ9))
def G12_rungMany_J35  (p2 : Int32) (q0 : Int32) (μ : MM) (K4 : Int32 × Int32 × MM → Prop) (Q : Int32 → MM → Prop) : Prop :=
  G12_rungMany_J36 p2 0 q0 μ K4 Q
def G12_rungMany_L4    (Q : Int32 → MM → Prop) (K4 : Int32 × Int32 × MM → Prop) (x : Int32 × Int32 × MM) : Prop :=
  (((gI x.2.2 358 12) ≤ x.2.1 → Q x.1 x.2.2) ∧ (¬ ((gI x.2.2 358 12) ≤ x.2.1) → vp_in x.2.1 96 ∧ (((gI x.2.2 373 x.2.1.toNatClampNeg) = 0 → G12_rungMany_J35 x.2.1 x.1 x.2.2 K4 Q) ∧ (¬ ((gI x.2.2 373 x.2.1.toNatClampNeg) = 0) → vp_in x.2.1 96 ∧ (((gI x.2.2 374 x.2.1.toNatClampNeg) = 0 → G12_rungMany_J35 x.2.1 x.1 x.2.2 K4 Q) ∧ (¬ ((gI x.2.2 374 x.2.1.toNatClampNeg) = 0) → G12_rungMany_J36 x.2.1 1 x.1 x.2.2 K4 Q))))))
def G12_rungMany  (μ : MM) (Q : Int32 → MM → Prop) : Prop :=
  Lp (G12_rungMany_L4 Q) (0, 0, μ)
def G12_count (v1 : Int32) (μ : MM) (Q : Int32 → MM → Prop) : Prop :=
  Bd (sI μ 358 0 0) fun μ10 => ((v1 = 0 → Q (gI μ10 358 3) μ10) ∧ (v1 = 1 → Q (gI μ10 358 8) μ10) ∧ (v1 = 2 → Q (gI μ10 358 12) μ10) ∧ (v1 = 3 → G12_readMany μ10 (fun r16 μ15 => Q r16 μ15)) ∧ (v1 = 4 → G12_rungMany μ10 (fun r19 μ18 => Q r19 μ18)) ∧ (v1 = 5 → G12_toldBits 0 μ10 (fun r22 μ21 => Q r22 μ21)) ∧ (v1 = 6 → G12_toldBits 6 μ10 (fun r25 μ24 => Q r25 μ24)) ∧ (v1 = 7 → Q (gI μ10 358 61) μ10) ∧ (v1 = 8 → Q (gI μ10 358 1) μ10) ∧ (v1 = 9 → Q (gI μ10 358 28) μ10) ∧ (¬ v1 = 0 → ¬ v1 = 1 → ¬ v1 = 2 → ¬ v1 = 3 → ¬ v1 = 4 → ¬ v1 = 5 → ¬ v1 = 6 → ¬ v1 = 7 → ¬ v1 = 8 → ¬ v1 = 9 → Q (-1) μ10))
def G12_row (v1 : Int32) (μ : MM) (Q : Int64 → MM → Prop) : Prop :=
  Bd (sI μ 358 0 0) fun μ6 => G12_in (v1.toInt64) 0 (((gI μ6 358 1) - 1).toInt64) μ6 (fun r8 μ7 => ((¬ r8 = 0 → vp_in v1 32 ∧ Q (gJ μ7 359 v1.toNatClampNeg) μ7) ∧ (r8 = 0 → Bd (sI μ7 358 0 1) fun μ11 => Q 0 μ11)))
