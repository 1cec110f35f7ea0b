def G11_within_J14   (μ : MM)  (Q : Int32 → MM → Prop) : Prop :=
  Q 0 μ
def G11_within (v0 : Int32) (v1 : Int32) (v2 : Int32) (μ : MM) (Q : Int32 → MM → Prop) : Prop :=
  ((v0 < v1 → G11_within_J14 μ Q) ∧ (¬ (v0 < v1) → ((v2 < v0 → G11_within_J14 μ Q) ∧ (¬ (v2 < v0) → Q 1 μ))))
def G10_addName (v1 : Int32) (v2 : Int32) (v3 : Int32) (μ : MM) (Q : Int32 → MM → Prop) : Prop :=
  vp_in (gI μ 1 4) 12 ∧ Bd (sI μ 2 ((gI μ 1 4).toNatClampNeg) v1) fun μ13 => vp_in (gI μ13 1 4) 12 ∧ Bd (sI μ13 3 ((gI μ13 1 4).toNatClampNeg) v2) fun μ15 => vp_in (gI μ15 1 4) 12 ∧ Bd (sI μ15 4 ((gI μ15 1 4).toNatClampNeg) (v3 / 101)) fun μ17 => vp_in (gI μ17 1 4) 12 ∧ Bd (sI μ17 5 ((gI μ17 1 4).toNatClampNeg) (v3 - v3 / 101 * 101)) fun μ19 => Bd (sI μ19 1 4 ((gI μ19 1 4) + 1)) fun μ20 => Q ((gI μ20 1 4) - 1) μ20
def G11_name_J66   (μ : MM)  (Q : Int32 → MM → Prop) : Prop :=
  Q (-1) μ
def G11_name_J34  (p1 : Int32) (p2 : Int32) (p3 : Int32) (q0 : Int32) (μ : MM)  (Q : Int32 → MM → Prop) : Prop :=
  ((q0 = 0 → G11_name_J66 μ Q) ∧ (¬ (q0 = 0) → ((12 ≤ (gI μ 1 4) → G11_name_J66 μ Q) ∧ (¬ (12 ≤ (gI μ 1 4)) → G10_addName p1 p2 p3 μ (fun r15 μ14 => Q r15 μ14)))))
def G11_name_J33  (p1 : Int32) (p2 : Int32) (p3 : Int32) (μ : MM)  (Q : Int32 → MM → Prop) : Prop :=
  G11_name_J34 p1 p2 p3 0 μ Q
def G11_name (v1 : Int32) (v2 : Int32) (v3 : Int32) (μ : MM) (Q : Int32 → MM → Prop) : Prop :=
  G11_within v1 0 1 μ (fun r10 μ9 => ((r10 = 0 → G11_name_J33 v1 v2 v3 μ9 Q) ∧ (¬ (r10 = 0) → G11_within v2 0 1 μ9 (fun r17 μ16 => ((r17 = 0 → G11_name_J33 v1 v2 v3 μ16 Q) ∧ (¬ (r17 = 0) → G11_within v3 0 1009 μ16 (fun r20 μ19 => ((r20 = 0 → G11_name_J33 v1 v2 v3 μ19 Q) ∧ (¬ (r20 = 0) → G11_name_J34 v1 v2 v3 1 μ19 Q)))))))))
def G10_addHouse (v1 : Int32) (v2 : Int32) (v3 : Int32) (μ : MM) (Q : Int32 → MM → Prop) : Prop :=
  vp_in (gI μ 1 8) 24 ∧ Bd (sI μ 6 ((gI μ 1 8).toNatClampNeg) v1) fun μ9 => vp_in (gI μ9 1 8) 24 ∧ Bd (sI μ9 7 ((gI μ9 1 8).toNatClampNeg) v2) fun μ11 => vp_in (gI μ11 1 8) 24 ∧ Bd (sI μ11 8 ((gI μ11 1 8).toNatClampNeg) v3) fun μ13 => Bd (sI μ13 1 8 ((gI μ13 1 8) + 1)) fun μ14 => Q ((gI μ14 1 8) - 1) μ14
def G11_house_J64   (μ : MM)  (Q : Int32 → MM → Prop) : Prop :=
  Q (-1) μ
def G11_house_J32  (p1 : Int32) (p2 : Int32) (p3 : Int32) (q0 : Int32) (μ : MM)  (Q : Int32 → MM → Prop) : Prop :=
  ((q0 = 0 → G11_house_J64 μ Q) ∧ (¬ (q0 = 0) → ((24 ≤ (gI μ 1 8) → G11_house_J64 μ Q) ∧ (¬ (24 ≤ (gI μ 1 8)) → G10_addHouse p1 p2 p3 μ (fun r15 μ14 => Q r15 μ14)))))
def G11_house_J31  (p1 : Int32) (p2 : Int32) (p3 : Int32) (μ : MM)  (Q : Int32 → MM → Prop) : Prop :=
  G11_house_J32 p1 p2 p3 0 μ Q
def G11_house (v1 : Int32) (v2 : Int32) (v3 : Int32) (μ : MM) (Q : Int32 → MM → Prop) : Prop :=
  G11_within v1 0 3 μ (fun r10 μ9 => ((r10 = 0 → G11_house_J31 v1 v2 v3 μ9 Q) ∧ (¬ (r10 = 0) → G11_within v2 0 3 μ9 (fun r17 μ16 => ((r17 = 0 → G11_house_J31 v1 v2 v3 μ16 Q) ∧ (¬ (r17 = 0) → G11_within v3 0 5 μ16 (fun r20 μ19 => ((r20 = 0 → G11_house_J31 v1 v2 v3 μ19 Q) ∧ (¬ (r20 = 0) → G11_house_J32 v1 v2 v3 1 μ19 Q)))))))))
def G5_becomeState_J12 (t : Nat) (p1 : Int32) (q0 : Int32) (μ : MM)  (Q : MM → Prop) : Prop :=
  bo q0 ∧ Bd (sI μ t 6 q0) fun μ8 => (((p1 &&& 2) = 0 → Bd (sI μ8 t 7 0) fun μ10 => Bd (sI μ10 t 8 (p1 >>> (2 &&& 31))) fun μ11 => Q μ11) ∧ (¬ ((p1 &&& 2) = 0) → Bd (sI μ8 t 7 1) fun μ12 => Bd (sI μ12 t 8 (p1 >>> (2 &&& 31))) fun μ13 => Q μ13))
def G5_becomeState (t : Nat) (v1 : Int32) (μ : MM) (Q : MM → Prop) : Prop :=
  (((v1 &&& 1) = 0 → G5_becomeState_J12 t v1 0 μ Q) ∧ (¬ ((v1 &&& 1) = 0) → G5_becomeState_J12 t v1 1 μ Q))
def G10_addLetter (v1 : Int32) (v2 : Int32) (v3 : Int32) (v4 : Int32) (v5 : Int32) (μ : MM) (Q : Int32 → MM → Prop) : Prop :=
  vp_in (gI μ 1 10) 96 ∧ Bd (sI μ (19 + (gI μ 1 10).toNatClampNeg) 0 v1) fun μ13 => Bd (sI μ13 (19 + (gI μ 1 10).toNatClampNeg) 1 v2) fun μ14 => Bd (sI μ14 (19 + (gI μ 1 10).toNatClampNeg) 2 v3) fun μ15 => Bd (sI μ15 (19 + (gI μ 1 10).toNatClampNeg) 3 (v4 / 4)) fun μ16 => Bd (sI μ16 (19 + (gI μ 1 10).toNatClampNeg) 4 (v4 - v4 / 4 * 4)) fun μ17 => Bd (sI μ17 (19 + (gI μ 1 10).toNatClampNeg) 5 v5) fun μ18 => G5_becomeState (19 + (gI μ 1 10).toNatClampNeg) 0 μ18 (fun μ19 => Bd (sI μ19 1 10 ((gI μ19 1 10) + 1)) fun μ20 => Q ((gI μ20 1 10) - 1) μ20)
def G10_isHouse_J16   (μ : MM)  (Q : Int32 → MM → Prop) : Prop :=
  Q 0 μ
def G10_isHouse (v1 : Int32) (μ : MM) (Q : Int32 → MM → Prop) : Prop :=
  ((v1 < 0 → G10_isHouse_J16 μ Q) ∧ (¬ (v1 < 0) → (((gI μ 1 8) ≤ v1 → G10_isHouse_J16 μ Q) ∧ (¬ ((gI μ 1 8) ≤ v1) → Q 1 μ))))
def G10_isName_J16   (μ : MM)  (Q : Int32 → MM → Prop) : Prop :=
  Q 0 μ
def G10_isName (v1 : Int32) (μ : MM) (Q : Int32 → MM → Prop) : Prop :=
  ((v1 < 0 → G10_isName_J16 μ Q) ∧ (¬ (v1 < 0) → (((gI μ 1 4) ≤ v1 → G10_isName_J16 μ Q) ∧ (¬ ((gI μ 1 4) ≤ v1) → Q 1 μ))))
def G10_lettersTo_L4  (p1 : Int32)  (Q : Int32 → MM → Prop) (K4 : Int32 × Int32 × MM → Prop) (x : Int32 × Int32 × MM) : Prop :=
  (((gI x.2.2 1 10) ≤ x.2.1 → Q x.1 x.2.2) ∧ (¬ ((gI x.2.2 1 10) ≤ x.2.1) → vp_in x.2.1 96 ∧ ((¬ (gI x.2.2 (19 + x.2.1.toNatClampNeg) 0) = p1 → Bd (x.1 + 0) fun y5 => K4 (y5, (x.2.1 + 1), x.2.2)) ∧ ((gI x.2.2 (19 + x.2.1.toNatClampNeg) 0) = p1 → Bd (x.1 + 1) fun y6 => K4 (y6, (x.2.1 + 1), x.2.2)))))
def G10_lettersTo (v1 : Int32) (μ : MM) (Q : Int32 → MM → Prop) : Prop :=
  Lp (G10_lettersTo_L4 v1 Q) (0, 0, μ)
def G11_letter_J120   (μ : MM)  (Q : Int32 → MM → Prop) : Prop :=
  Q (-1) μ
def G11_letter_J91  (p1 : Int32) (p2 : Int32) (p3 : Int32) (p4 : Int32) (p5 : Int32) (p6 : Int32) (q0 : Int32) (μ : MM)  (Q : Int32 → MM → Prop) : Prop :=
  ((p6 = 0 → G11_letter_J120 μ Q) ∧ (¬ (p6 = 0) → ((q0 = 0 → G11_letter_J120 μ Q) ∧ (¬ (q0 = 0) → G10_addLetter p1 p2 p3 p4 p5 μ (fun r22 μ21 => Q r22 μ21)))))
def G11_letter_J90  (p1 : Int32) (p2 : Int32) (p3 : Int32) (p4 : Int32) (p5 : Int32) (p6 : Int32) (μ : MM)  (Q : Int32 → MM → Prop) : Prop :=
  G11_letter_J91 p1 p2 p3 p4 p5 p6 0 μ Q
def G11_letter_J60  (p1 : Int32) (p2 : Int32) (p3 : Int32) (p4 : Int32) (p5 : Int32) (q0 : Int32) (μ : MM)  (Q : Int32 → MM → Prop) : Prop :=
  ((96 ≤ (gI μ 1 10) → G11_letter_J90 p1 p2 p3 p4 p5 q0 μ Q) ∧ (¬ (96 ≤ (gI μ 1 10)) → G10_lettersTo p1 μ (fun r24 μ23 => ((4 ≤ r24 → G11_letter_J90 p1 p2 p3 p4 p5 q0 μ23 Q) ∧ (¬ (4 ≤ r24) → G11_letter_J91 p1 p2 p3 p4 p5 q0 1 μ23 Q)))))
def G11_letter_J59  (p1 : Int32) (p2 : Int32) (p3 : Int32) (p4 : Int32) (p5 : Int32) (μ : MM)  (Q : Int32 → MM → Prop) : Prop :=
  G11_letter_J60 p1 p2 p3 p4 p5 0 μ Q
def G11_letter (v1 : Int32) (v2 : Int32) (v3 : Int32) (v4 : Int32) (v5 : Int32) (μ : MM) (Q : Int32 → MM → Prop) : Prop :=
  G10_isHouse v1 μ (fun r16 μ15 => ((r16 = 0 → G11_letter_J59 v1 v2 v3 v4 v5 μ15 Q) ∧ (¬ (r16 = 0) → G10_isName v2 μ15 (fun r27 μ26 => ((r27 = 0 → G11_letter_J59 v1 v2 v3 v4 v5 μ26 Q) ∧ (¬ (r27 = 0) → G11_within v3 0 99 μ26 (fun r30 μ29 => ((r30 = 0 → G11_letter_J59 v1 v2 v3 v4 v5 μ29 Q) ∧ (¬ (r30 = 0) → G11_within v4 0 39 μ29 (fun r33 μ32 => ((r33 = 0 → G11_letter_J59 v1 v2 v3 v4 v5 μ32 Q) ∧ (¬ (r33 = 0) → G11_within v5 0 399 μ32 (fun r36 μ35 => ((r36 = 0 → G11_letter_J59 v1 v2 v3 v4 v5 μ35 Q) ∧ (¬ (r36 = 0) → G11_letter_J60 v1 v2 v3 v4 v5 1 μ35 Q)))))))))))))))
def G11_sign_L16  (p1 : Int32)  (Q : Int32 → MM → Prop) (K16 : Int32 × MM → Prop) (x : Int32 × MM) : Prop :=
  ((x.1 < 0 → Q (gI x.2 0 8) x.2) ∧ (¬ (x.1 < 0) → vp_in (gI x.2 0 8) 60 ∧ Bd (sI x.2 357 ((gI x.2 0 8).toNatClampNeg) (((p1.toUInt32 >>> (x.1.toUInt32 &&& Int32.toUInt32 31)).toInt32) &&& 255)) fun μ7 => Bd (sI μ7 0 8 ((gI μ7 0 8) + 1)) fun μ8 => K16 ((x.1 + (-8)), μ8)))
def G11_sign (v1 : Int32) (μ : MM) (Q : Int32 → MM → Prop) : Prop :=
  ((((gI μ 0 8) + 4) ≤ 60 → Lp (G11_sign_L16 v1 Q) (24, μ)) ∧ (¬ (((gI μ 0 8) + 4) ≤ 60) → Q (-1) μ))
def G11_end (v1 : Int32) (μ : MM) (Q : Int32 → MM → Prop) : Prop :=
  G11_within v1 0 (gI μ 0 8) μ (fun r5 μ4 => ((¬ r5 = 0 → Bd (sI μ4 0 8 v1) fun μ7 => Q 1 μ7) ∧ (r5 = 0 → Q 0 μ4)))
def G5_becomeRead (t : Nat) (v1 : Int32) (μ : MM) (Q : MM → Prop) : Prop :=
  Bd (sI μ t 6 1) fun μ5 => bo v1 ∧ Bd (sI μ5 t 7 v1) fun μ7 => Q μ7
def G10_draw (v1 : Int32) (μ : MM) (Q : Int32 → MM → Prop) : Prop :=
  Bd (sI μ 1 14 (((gI μ 1 14) * 1103515245) + 12345)) fun μ3 => ((v1 ≤ 0 → Q 0 μ3) ∧ (¬ (v1 ≤ 0) → ¬ v1 = 0 ∧ Q ((((gI μ3 1 14).toUInt32 >>> ((16 : Int32).toUInt32 &&& Int32.toUInt32 31)).toInt32) - (((gI μ3 1 14).toUInt32 >>> ((16 : Int32).toUInt32 &&& Int32.toUInt32 31)).toInt32) / v1 * v1) μ3))
def G3_isTold (t : Nat) (μ : MM) (Q : Int32 → MM → Prop) : Prop :=
  (((gI μ t 1) ≤ 0 → Q 0 μ) ∧ (¬ ((gI μ t 1) ≤ 0) → Q 1 μ))
def G10_isLaw_J25   (μ : MM)  (Q : Int32 → MM → Prop) : Prop :=
  Q 0 μ
def G10_isLaw (v1 : Int32) (μ : MM) (Q : Int32 → MM → Prop) : Prop :=
  G11_within v1 0 5 μ (fun r7 μ6 => ((r7 = 0 → G10_isLaw_J25 μ6 Q) ∧ (¬ (r7 = 0) → vp_in v1 6 ∧ G3_isTold (115 + 6 * v1.toNatClampNeg) μ6 (fun r11 μ10 => ((r11 = 0 → G10_isLaw_J25 μ10 Q) ∧ (¬ (r11 = 0) → Q 1 μ10))))))
def G3_joined_J94   (μ : MM)  (Q : Int32 → MM → Prop) : Prop :=
  Q 0 μ
def G3_joined (v0 : Int32) (v1 : Int32) (v2 : Int32) (μ : MM) (Q : Int32 → MM → Prop) : Prop :=
  ((v1 = 38 → ((v0 = 0 → G3_joined_J94 μ Q) ∧ (¬ (v0 = 0) → ((v2 = 0 → G3_joined_J94 μ Q) ∧ (¬ (v2 = 0) → Q 1 μ))))) ∧ (v1 = 43 → Q (v0 + v2) μ) ∧ (v1 = 45 → Q (v0 - v2) μ) ∧ (v1 = 60 → ((v2 ≤ v0 → Q 0 μ) ∧ (¬ (v2 ≤ v0) → Q 1 μ))) ∧ (v1 = 61 → ((¬ v0 = v2 → Q 0 μ) ∧ (v0 = v2 → Q 1 μ))) ∧ (v1 = 62 → ((v0 ≤ v2 → Q 0 μ) ∧ (¬ (v0 ≤ v2) → Q 1 μ))) ∧ (v1 = 124 → ((¬ v0 = 0 → Q 1 μ) ∧ (v0 = 0 → ((v2 = 0 → Q 0 μ) ∧ (¬ (v2 = 0) → Q 1 μ))))) ∧ (¬ v1 = 38 → ¬ v1 = 43 → ¬ v1 = 45 → ¬ v1 = 60 → ¬ v1 = 61 → ¬ v1 = 62 → ¬ v1 = 124 → Q (v0 * v2) μ))
def G3_pop (t : Nat) (μ : MM) (Q : Int32 → MM → Prop) : Prop :=
  ((¬ (gI μ t 3) = 0 → Bd (sI μ t 3 ((gI μ t 3) - 1)) fun μ4 => vp_in (gI μ4 t 3) 40 ∧ Q (gI μ4 (t + 2) ((gI μ4 t 3).toNatClampNeg)) μ4) ∧ ((gI μ t 3) = 0 → Q 0 μ))
def G3_push (t : Nat) (v1 : Int32) (μ : MM) (Q : MM → Prop) : Prop :=
  ((40 ≤ (gI μ t 3) → Q μ) ∧ (¬ (40 ≤ (gI μ t 3)) → vp_in (gI μ t 3) 40 ∧ Bd (sI μ (t + 2) ((gI μ t 3).toNatClampNeg) v1) fun μ6 => Bd (sI μ6 t 3 ((gI μ6 t 3) + 1)) fun μ7 => Q μ7))
def G3_operate_J21 (t : Nat) (q0 : Int32) (μ : MM)  (Q : MM → Prop) : Prop :=
  G3_push t q0 μ (fun μ21 => Q μ21)
def G3_operate (t : Nat) (v1 : Int32) (μ : MM) (Q : MM → Prop) : Prop :=
  G3_pop t μ (fun r11 μ10 => ((¬ v1 = 33 → ((¬ v1 = 126 → G3_pop t μ10 (fun r15 μ14 => G3_joined r15 v1 r11 μ14 (fun r17 μ16 => G3_push t r17 μ16 (fun μ18 => Q μ18)))) ∧ (v1 = 126 → G3_push t (-r11) μ10 (fun μ19 => Q μ19)))) ∧ (v1 = 33 → ((¬ r11 = 0 → G3_operate_J21 t 0 μ10 Q) ∧ (r11 = 0 → G3_operate_J21 t 1 μ10 Q)))))
def G3_result_L7 (t : Nat) (a1 : Nat)   (Q : Int32 → MM → Prop) (K7 : Int32 × MM → Prop) (x : Int32 × MM) : Prop :=
  (((gI x.2 t 1) ≤ x.1 → G3_pop t x.2 (fun r12 μ11 => Q r12 μ11)) ∧ (¬ ((gI x.2 t 1) ≤ x.1) → vp_in x.1 40 ∧ Bd (gI x.2 (t + 1) x.1.toNatClampNeg) fun y14 => ((0 ≤ y14 → ((1000 ≤ y14 → (((Int32.ofNat (ln a1)) ≤ (y14 - 1000) → K7 ((x.1 + 1), x.2)) ∧ (¬ ((Int32.ofNat (ln a1)) ≤ (y14 - 1000)) → vp_in (y14 - 1000) (ln a1) ∧ G3_push t (gI x.2 a1 ((y14 - 1000).toNatClampNeg)) x.2 (fun μ19 => K7 ((x.1 + 1), μ19))))) ∧ (¬ (1000 ≤ y14) → G3_push t y14 x.2 (fun μ20 => K7 ((x.1 + 1), μ20))))) ∧ (¬ (0 ≤ y14) → G3_operate t (-y14) x.2 (fun μ21 => K7 ((x.1 + 1), μ21))))))
def G3_result (t : Nat) (a1 : Nat) (μ : MM) (Q : Int32 → MM → Prop) : Prop :=
  Bd (sI μ t 3 0) fun μ9 => Lp (G3_result_L7 t a1 Q) (0, μ9)
def G10_lookAt (a1 : Nat) (μ : MM) (Q : MM → Prop) : Prop :=
  Bd (sI μ 12 0 (gI μ a1 2)) fun μ35 => Bd (sI μ35 12 1 (gI μ35 a1 3)) fun μ36 => Bd (sI μ36 12 2 (gI μ36 a1 4)) fun μ37 => Bd (sI μ37 12 3 (gI μ37 a1 5)) fun μ38 => vp_in (gI μ38 a1 1) 12 ∧ Bd (sI μ38 12 4 (gI μ38 2 ((gI μ38 a1 1).toNatClampNeg))) fun μ40 => vp_in (gI μ40 a1 1) 12 ∧ Bd (sI μ40 12 5 (gI μ40 3 ((gI μ40 a1 1).toNatClampNeg))) fun μ42 => vp_in (gI μ42 a1 1) 12 ∧ Bd (sI μ42 12 6 (gI μ42 4 ((gI μ42 a1 1).toNatClampNeg))) fun μ44 => vp_in (gI μ44 a1 1) 12 ∧ Bd (sI μ44 12 7 (gI μ44 5 ((gI μ44 a1 1).toNatClampNeg))) fun μ46 => vp_in (gI μ46 a1 0) 24 ∧ Bd (sI μ46 12 8 (gI μ46 6 ((gI μ46 a1 0).toNatClampNeg))) fun μ48 => vp_in (gI μ48 a1 0) 24 ∧ Bd (sI μ48 12 9 (gI μ48 7 ((gI μ48 a1 0).toNatClampNeg))) fun μ50 => Bd (sI μ50 12 10 0) fun μ51 => Bd (sI μ51 12 11 0) fun μ52 => Bd (sI μ52 12 12 0) fun μ53 => (((gI μ53 a1 7) = 0 → Bd (sI μ53 12 13 0) fun μ55 => Q μ55) ∧ (¬ ((gI μ53 a1 7) = 0) → Bd (sI μ53 12 13 1) fun μ56 => Q μ56))
def G10_lookAtHouse_J99  (p1 : Int32) (p2 : Int32) (q0 : Int32) (q1 : Int32) (μ : MM) (K2 : Int32 × MM → Prop) (Q : MM → Prop) : Prop :=
  vp_in q1 14 ∧ Bd (sI μ 12 q1.toNatClampNeg q0) fun μ22 => K2 ((p2 + 1), μ22)
def G10_lookAtHouse_J52  (p1 : Int32) (p2 : Int32) (p3 : Nat) (q0 : Int32) (q1 : Int32) (q2 : Int32) (μ : MM) (K2 : Int32 × MM → Prop) (Q : MM → Prop) : Prop :=
  vp_in q2 14 ∧ Bd (sI μ 12 q2.toNatClampNeg (q1 + q0)) fun μ18 => Bd (sI μ18 12 11 ((gI μ18 12 11) + 1)) fun μ19 => (((gI μ19 p3 2) ≤ (gI μ19 12 12) → G10_lookAtHouse_J99 p1 p2 (gI μ19 12 12) 12 μ19 K2 Q) ∧ (¬ ((gI μ19 p3 2) ≤ (gI μ19 12 12)) → G10_lookAtHouse_J99 p1 p2 (gI μ19 p3 2) 12 μ19 K2 Q))
def G10_lookAtHouse_L2  (p1 : Int32)  (Q : MM → Prop) (K2 : Int32 × MM → Prop) (x : Int32 × MM) : Prop :=
  (((gI x.2 1 10) ≤ x.1 → Q x.2) ∧ (¬ ((gI x.2 1 10) ≤ x.1) → vp_in x.1 96 ∧ ((¬ (gI x.2 (19 + x.1.toNatClampNeg) 0) = p1 → K2 ((x.1 + 1), x.2)) ∧ ((gI x.2 (19 + x.1.toNatClampNeg) 0) = p1 → (((gI x.2 (19 + x.1.toNatClampNeg) 6) = 0 → K2 ((x.1 + 1), x.2)) ∧ (¬ ((gI x.2 (19 + x.1.toNatClampNeg) 6) = 0) → (((gI x.2 (19 + x.1.toNatClampNeg) 7) = 0 → G10_lookAtHouse_J52 p1 x.1 (19 + x.1.toNatClampNeg) 0 (gI x.2 12 10) 10 x.2 K2 Q) ∧ (¬ ((gI x.2 (19 + x.1.toNatClampNeg) 7) = 0) → G10_lookAtHouse_J52 p1 x.1 (19 + x.1.toNatClampNeg) 1 (gI x.2 12 10) 10 x.2 K2 Q))))))))
def G10_lookAtHouse (v1 : Int32) (μ : MM) (Q : MM → Prop) : Prop :=
  Lp (G10_lookAtHouse_L2 v1 Q) (0, μ)
def G10_lawFor (v1 : Int32) (a2 : Nat) (μ : MM) (Q : Int32 → MM → Prop) : Prop :=
  G10_lookAt a2 μ (fun μ6 => G10_lookAtHouse (gI μ6 a2 0) μ6 (fun μ7 => vp_in v1 6 ∧ G3_result (115 + 6 * v1.toNatClampNeg) 12 μ7 (fun r10 μ9 => Q r10 μ9)))
def G10_isRungByHouse_J41 (a1 : Nat) (q0 : Int32) (μ : MM)  (Q : Int32 → MM → Prop) : Prop :=
  G5_becomeRead a1 q0 μ (fun μ16 => bo (gI μ16 a1 7) ∧ Q (gI μ16 a1 7) μ16)
def G10_isRungByHouse_J40 (a1 : Nat)  (μ : MM)  (Q : Int32 → MM → Prop) : Prop :=
  G10_isRungByHouse_J41 a1 0 μ Q
def G10_isRungByHouse (a1 : Nat) (μ : MM) (Q : Int32 → MM → Prop) : Prop :=
  G10_draw 100 μ (fun r10 μ9 => vp_in (gI μ9 a1 0) 24 ∧ Bd (gI μ9 8 ((gI μ9 a1 0).toNatClampNeg)) fun y12 => G10_isLaw y12 μ9 (fun r14 μ13 => ((r14 = 0 → G10_isRungByHouse_J40 a1 μ13 Q) ∧ (¬ (r14 = 0) → G10_lawFor y12 a1 μ13 (fun r18 μ17 => ((r18 ≤ r10 → G10_isRungByHouse_J40 a1 μ17 Q) ∧ (¬ (r18 ≤ r10) → G10_isRungByHouse_J41 a1 1 μ17 Q)))))))
def G10_nextUnread_J50  (p2 : Int32) (μ : MM) (K4 : Int32 × Int32 × MM → Prop) (Q : Int32 → MM → Prop) : Prop :=
  K4 (p2, (p2 + 1), μ)
def G10_nextUnread_L4    (Q : Int32 → MM → Prop) (K4 : Int32 × Int32 × MM → Prop) (x : Int32 × Int32 × MM) : Prop :=
  (((gI x.2.2 1 10) ≤ x.2.1 → Q x.1 x.2.2) ∧ (¬ ((gI x.2.2 1 10) ≤ x.2.1) → vp_in x.2.1 96 ∧ ((¬ (gI x.2.2 (19 + x.2.1.toNatClampNeg) 6) = 0 → K4 (x.1, (x.2.1 + 1), x.2.2)) ∧ ((gI x.2.2 (19 + x.2.1.toNatClampNeg) 6) = 0 → ((x.1 = (-1) → G10_nextUnread_J50 x.2.1 x.2.2 K4 Q) ∧ (¬ (x.1 = (-1)) → vp_in x.2.1 96 ∧ vp_in x.1 96 ∧ (((gI x.2.2 (19 + x.1.toNatClampNeg) 5) ≤ (gI x.2.2 (19 + x.2.1.toNatClampNeg) 5) → K4 (x.1, (x.2.1 + 1), x.2.2)) ∧ (¬ ((gI x.2.2 (19 + x.1.toNatClampNeg) 5) ≤ (gI x.2.2 (19 + x.2.1.toNatClampNeg) 5)) → G10_nextUnread_J50 x.2.1 x.2.2 K4 Q))))))))
def G10_nextUnread  (μ : MM) (Q : Int32 → MM → Prop) : Prop :=
  Lp (G10_nextUnread_L4 Q) ((-1), 0, μ)
def G10_readNext_L4  (p1 : Int32)  (Q : Int32 → MM → Prop) (K4 : Int32 × Int32 × MM → Prop) (x : Int32 × Int32 × MM) : Prop :=
  ((p1 ≤ x.2.1 → Q x.1 x.2.2) ∧ (¬ (p1 ≤ x.2.1) → G10_nextUnread x.2.2 (fun r8 μ7 => ((¬ r8 = (-1) → vp_in r8 96 ∧ G10_isRungByHouse (19 + r8.toNatClampNeg) μ7 (fun r12 μ11 => ((r12 = 0 → Bd (x.1 + 0) fun y14 => K4 (y14, (x.2.1 + 1), μ11)) ∧ (¬ (r12 = 0) → Bd (x.1 + 1) fun y15 => K4 (y15, (x.2.1 + 1), μ11))))) ∧ (r8 = (-1) → Q x.1 μ7)))))
def G10_readNext (v1 : Int32) (μ : MM) (Q : Int32 → MM → Prop) : Prop :=
  Lp (G10_readNext_L4 v1 Q) (0, 0, μ)
def G11_read (v1 : Int32) (μ : MM) (Q : Int32 → MM → Prop) : Prop :=
  G11_within v1 0 96 μ (fun r6 μ5 => ((r6 = 0 → Q (-1) μ5) ∧ (¬ (r6 = 0) → G10_readNext v1 μ5 (fun r9 μ8 => Q r9 μ8))))
def G10_isLetter_J16   (μ : MM)  (Q : Int32 → MM → Prop) : Prop :=
  Q 0 μ
def G10_isLetter (v1 : Int32) (μ : MM) (Q : Int32 → MM → Prop) : Prop :=
  ((v1 < 0 → G10_isLetter_J16 μ Q) ∧ (¬ (v1 < 0) → (((gI μ 1 10) ≤ v1 → G10_isLetter_J16 μ Q) ∧ (¬ ((gI μ 1 10) ≤ v1) → Q 1 μ))))
def G11_ring (v1 : Int32) (v2 : Int32) (μ : MM) (Q : Int32 → MM → Prop) : Prop :=
  G10_isLetter v1 μ (fun r7 μ6 => ((r7 = 0 → Q 0 μ6) ∧ (¬ (r7 = 0) → vp_in v1 96 ∧ (((gI μ6 (19 + v1.toNatClampNeg) 6) = 0 → vp_in v1 96 ∧ G5_becomeRead (19 + v1.toNatClampNeg) v2 μ6 (fun μ12 => Q 1 μ12)) ∧ (¬ ((gI μ6 (19 + v1.toNatClampNeg) 6) = 0) → Q 0 μ6)))))
def G10_readAllWithoutRings_L4    (Q : Int32 → MM → Prop) (K4 : Int32 × Int32 × MM → Prop) (x : Int32 × Int32 × MM) : Prop :=
  (((gI x.2.2 1 10) ≤ x.2.1 → Q x.1 x.2.2) ∧ (¬ ((gI x.2.2 1 10) ≤ x.2.1) → vp_in x.2.1 96 ∧ ((¬ (gI x.2.2 (19 + x.2.1.toNatClampNeg) 6) = 0 → K4 (x.1, (x.2.1 + 1), x.2.2)) ∧ ((gI x.2.2 (19 + x.2.1.toNatClampNeg) 6) = 0 → vp_in x.2.1 96 ∧ G5_becomeRead (19 + x.2.1.toNatClampNeg) 0 x.2.2 (fun μ8 => K4 ((x.1 + 1), (x.2.1 + 1), μ8))))))
def G10_readAllWithoutRings  (μ : MM) (Q : Int32 → MM → Prop) : Prop :=
  Lp (G10_readAllWithoutRings_L4 Q) (0, 0, μ)
def G10_asHeld (v0 : Int32) (v1 : Int32) (μ : MM) (Q : Int32 → MM → Prop) : Prop :=
  ((v0 = 0 → Q (v1.toInt8.toInt32) μ) ∧ (v0 = 1 → Q (v1.toInt16.toInt32) μ) ∧ (¬ v0 = 0 → ¬ v0 = 1 → Q v1 μ))
def G10_readAsBoxed_J69  (p1 : Int32) (p2 : Int32) (p3 : Int32) (p4 : Int32) (p5 : Int32) (p6 : Int32) (q0 : Int32) (q1 : Nat) (μ : MM) (K6 : Int32 × Int32 × MM → Prop) (Q : Int32 → MM → Prop) : Prop :=
  G5_becomeRead q1 q0 μ (fun μ15 => K6 ((p5 + 1), (p6 + 1), μ15))
def G10_readAsBoxed_L6  (p1 : Int32) (p2 : Int32) (p3 : Int32) (p4 : Int32)  (Q : Int32 → MM → Prop) (K6 : Int32 × Int32 × MM → Prop) (x : Int32 × Int32 × MM) : Prop :=
  ((p2 ≤ x.2.1 → Q x.1 x.2.2) ∧ (¬ (p2 ≤ x.2.1) → (((gI x.2.2 1 10) ≤ x.2.1 → Q x.1 x.2.2) ∧ (¬ ((gI x.2.2 1 10) ≤ x.2.1) → G10_asHeld p1 (p3 + (x.2.1 * p4)) x.2.2 (fun r9 μ8 => vp_in x.2.1 96 ∧ ((¬ (gI μ8 (19 + x.2.1.toNatClampNeg) 6) = 0 → K6 (x.1, (x.2.1 + 1), μ8)) ∧ ((gI μ8 (19 + x.2.1.toNatClampNeg) 6) = 0 → ((r9 < 0 → K6 (x.1, (x.2.1 + 1), μ8)) ∧ (¬ (r9 < 0) → vp_in x.2.1 96 ∧ ((r9 ≤ 0 → G10_readAsBoxed_J69 p1 p2 p3 p4 x.1 x.2.1 0 (19 + x.2.1.toNatClampNeg) μ8 K6 Q) ∧ (¬ (r9 ≤ 0) → G10_readAsBoxed_J69 p1 p2 p3 p4 x.1 x.2.1 1 (19 + x.2.1.toNatClampNeg) μ8 K6 Q)))))))))))
def G10_readAsBoxed (v1 : Int32) (v2 : Int32) (v3 : Int32) (v4 : Int32) (μ : MM) (Q : Int32 → MM → Prop) : Prop :=
  Lp (G10_readAsBoxed_L6 v1 v2 v3 v4 Q) (0, 0, μ)
def G11_box (v1 : Int32) (v2 : Int32) (v3 : Int32) (v4 : Int32) (μ : MM) (Q : Int32 → MM → Prop) : Prop :=
  G11_within v1 0 3 μ (fun r8 μ7 => ((r8 = 0 → Q (-1) μ7) ∧ (¬ (r8 = 0) → ((v2 ≤ 96 → ((¬ v1 = 3 → ((0 ≤ v2 → G10_readAsBoxed v1 v2 v3 v4 μ7 (fun r14 μ13 => Q r14 μ13)) ∧ (¬ (0 ≤ v2) → Q (-2) μ7))) ∧ (v1 = 3 → G10_readAllWithoutRings μ7 (fun r16 μ15 => Q r16 μ15)))) ∧ (¬ (v2 ≤ 96) → Q (-1) μ7)))))
def G11_after (v1 : Int32) (v2 : Int32) (μ : MM) (Q : Int32 → MM → Prop) : Prop :=
  G10_isLetter v1 μ (fun r10 μ9 => ((r10 = 0 → Q (-1) μ9) ∧ (¬ (r10 = 0) → vp_in v1 96 ∧ (((gI μ9 (19 + v1.toNatClampNeg) 7) = 0 → Q (-1) μ9) ∧ (¬ ((gI μ9 (19 + v1.toNatClampNeg) 7) = 0) → G11_within v2 0 2 μ9 (fun r15 μ14 => ((¬ r15 = 0 → vp_in v1 96 ∧ Bd (gI μ14 (19 + v1.toNatClampNeg) 8) fun y18 => vp_in v1 96 ∧ Bd (sI μ14 (19 + v1.toNatClampNeg) 8 v2) fun μ20 => Q y18 μ20) ∧ (r15 = 0 → Q (-1) μ14))))))))
def G11_seed (v1 : Int32) (μ : MM) (Q : Int32 → MM → Prop) : Prop :=
  Bd (gI μ 1 14) fun y2 => Bd (sI μ 1 14 v1) fun μ3 => Q y2 μ3
def G11_greatestDivisor_L28    (Q : Int64 → MM → Prop) (K28 : Int64 × Int64 × MM → Prop) (x : Int64 × Int64 × MM) : Prop :=
  (((lg_cmp x.2.1 0) = 0 → Q x.1 x.2.2) ∧ (¬ ((lg_cmp x.2.1 0) = 0) → ¬ x.2.1 = 0 ∧ Bd (x.1 - x.1 / x.2.1 * x.2.1) fun y6 => K28 (x.2.1, y6, x.2.2)))
def G11_greatestDivisor_J12  (p2 : Int64) (q0 : Int64) (μ : MM)  (Q : Int64 → MM → Prop) : Prop :=
  ((0 ≤ (lg_cmp p2 0) → Lp (G11_greatestDivisor_L28 Q) (q0, p2, μ)) ∧ (¬ (0 ≤ (lg_cmp p2 0)) → Bd (-p2) fun y7 => Lp (G11_greatestDivisor_L28 Q) (q0, y7, μ)))
def G11_greatestDivisor (v0 : Int64) (v2 : Int64) (μ : MM) (Q : Int64 → MM → Prop) : Prop :=
  ((0 ≤ (lg_cmp v0 0) → G11_greatestDivisor_J12 v2 v0 μ Q) ∧ (¬ (0 ≤ (lg_cmp v0 0)) → G11_greatestDivisor_J12 v2 (-v0) μ Q))
def G7_add (v1 : Int64) (μ : MM) (Q : MM → Prop) : Prop :=
  ((10 ≤ (gI μ 151 1) → Q μ) ∧ (¬ (10 ≤ (gI μ 151 1)) → vp_in (gI μ 151 1) 10 ∧ Bd (sJ μ 152 ((gI μ 151 1).toNatClampNeg) v1) fun μ6 => Bd (sI μ6 151 1 ((gI μ6 151 1) + 1)) fun μ7 => Q μ7))
def G7_addFraction (v1 : Int64) (v3 : Int64) (μ : MM) (Q : MM → Prop) : Prop :=
  G11_greatestDivisor v1 v3 μ (fun r8 μ7 => (((lg_cmp r8 0) = 0 → Q μ7) ∧ (¬ ((lg_cmp r8 0) = 0) → ¬ r8 = 0 ∧ G7_add (v1 / r8) μ7 (fun μ11 => ¬ r8 = 0 ∧ G7_add (v3 / r8) μ11 (fun μ13 => Q μ13)))))
def G7_clear  (μ : MM) (Q : MM → Prop) : Prop :=
  Bd (sI μ 151 1 0) fun μ2 => Q μ2
def G9_clear (t : Nat) (μ : MM) (Q : MM → Prop) : Prop :=
  Bd (sI μ (t + 1) 0 0) fun μ9 => Bd (sI μ9 (t + 1) 1 0) fun μ10 => Bd (sI μ10 (t + 2) 0 0) fun μ11 => Bd (sI μ11 (t + 2) 1 0) fun μ12 => Q μ12
def G9_note (t : Nat) (v1 : Int32) (v2 : Int32) (μ : MM) (Q : MM → Prop) : Prop :=
  vp_in v1 2 ∧ vp_in v1 2 ∧ Bd (sI μ (t + 1) v1.toNatClampNeg ((gI μ (t + 1) v1.toNatClampNeg) + 1)) fun μ9 => vp_in v1 2 ∧ ((v2 = 0 → vp_in v1 2 ∧ Bd (sI μ9 (t + 2) v1.toNatClampNeg ((gI μ9 (t + 2) v1.toNatClampNeg) + 0)) fun μ13 => Q μ13) ∧ (¬ (v2 = 0) → vp_in v1 2 ∧ Bd (sI μ9 (t + 2) v1.toNatClampNeg ((gI μ9 (t + 2) v1.toNatClampNeg) + 1)) fun μ15 => Q μ15))
def G10_passes (a1 : Nat) (v2 : Int32) (μ : MM) (Q : Int32 → MM → Prop) : Prop :=
  ((¬ v2 = (-1) → G10_lookAt a1 μ (fun μ6 => vp_in v2 6 ∧ G3_result (118 + 6 * v2.toNatClampNeg) 12 μ6 (fun r9 μ8 => ((r9 = 0 → Q 0 μ8) ∧ (¬ (r9 = 0) → Q 1 μ8))))) ∧ (v2 = (-1) → Q 1 μ))
def G10_peopleOf (a1 : Nat) (μ : MM) (Q : Int32 → MM → Prop) : Prop :=
  vp_in (gI μ a1 1) 12 ∧ Q (gI μ 2 ((gI μ a1 1).toNatClampNeg)) μ
def G8_gather_J58 (a1 : Nat) (p2 : Int32) (p3 : Int32) (p4 : Int32) (p5 : Nat) (q0 : Int32) (μ : MM) (K7 : Int32 × MM → Prop) (Q : MM → Prop) : Prop :=
  ((q0 = 0 → K7 ((p4 + 1), μ)) ∧ (¬ (q0 = 0) → G10_passes p5 p2 μ (fun r14 μ13 => ((r14 = 0 → K7 ((p4 + 1), μ13)) ∧ (¬ (r14 = 0) → G10_peopleOf p5 μ13 (fun r17 μ16 => G9_note a1 r17 (gI μ16 p5 7) μ16 (fun μ18 => K7 ((p4 + 1), μ18))))))))
def G8_gather_J57 (a1 : Nat) (p2 : Int32) (p3 : Int32) (p4 : Int32) (p5 : Nat) (μ : MM) (K7 : Int32 × MM → Prop) (Q : MM → Prop) : Prop :=
  G8_gather_J58 a1 p2 p3 p4 p5 0 μ K7 Q
def G8_gather_J53 (a1 : Nat) (p2 : Int32) (p3 : Int32) (p4 : Int32) (p5 : Nat) (μ : MM) (K7 : Int32 × MM → Prop) (Q : MM → Prop) : Prop :=
  G8_gather_J58 a1 p2 p3 p4 p5 1 μ K7 Q
def G8_gather_L7 (a1 : Nat) (p2 : Int32) (p3 : Int32)  (Q : MM → Prop) (K7 : Int32 × MM → Prop) (x : Int32 × MM) : Prop :=
  (((gI x.2 1 10) ≤ x.1 → Q x.2) ∧ (¬ ((gI x.2 1 10) ≤ x.1) → vp_in x.1 96 ∧ (((gI x.2 (19 + x.1.toNatClampNeg) 6) = 0 → G8_gather_J57 a1 p2 p3 x.1 (19 + x.1.toNatClampNeg) x.2 K7 Q) ∧ (¬ ((gI x.2 (19 + x.1.toNatClampNeg) 6) = 0) → ((p3 = (-1) → G8_gather_J53 a1 p2 p3 x.1 (19 + x.1.toNatClampNeg) x.2 K7 Q) ∧ (¬ (p3 = (-1)) → ((¬ (gI x.2 (19 + x.1.toNatClampNeg) 0) = p3 → G8_gather_J57 a1 p2 p3 x.1 (19 + x.1.toNatClampNeg) x.2 K7 Q) ∧ ((gI x.2 (19 + x.1.toNatClampNeg) 0) = p3 → G8_gather_J53 a1 p2 p3 x.1 (19 + x.1.toNatClampNeg) x.2 K7 Q))))))))
def G8_gather (a1 : Nat) (v2 : Int32) (v3 : Int32) (μ : MM) (Q : MM → Prop) : Prop :=
  G9_clear a1 μ (fun μ8 => Lp (G8_gather_L7 a1 v2 v3 Q) (0, μ8))
def G9_all (t : Nat) (μ : MM) (Q : Int32 → MM → Prop) : Prop :=
  Q ((gI μ (t + 1) 0) + (gI μ (t + 1) 1)) μ
def G10_isFilter_J30   (μ : MM)  (Q : Int32 → MM → Prop) : Prop :=
  Q 0 μ
def G10_isFilter (v1 : Int32) (μ : MM) (Q : Int32 → MM → Prop) : Prop :=
  ((v1 = (-1) → Q 1 μ) ∧ (¬ (v1 = (-1)) → G11_within v1 0 5 μ (fun r8 μ7 => ((r8 = 0 → G10_isFilter_J30 μ7 Q) ∧ (¬ (r8 = 0) → vp_in v1 6 ∧ G3_isTold (118 + 6 * v1.toNatClampNeg) μ7 (fun r12 μ11 => ((r12 = 0 → G10_isFilter_J30 μ11 Q) ∧ (¬ (r12 = 0) → Q 1 μ11))))))))
def G8_tellShare_J75   (μ : MM)  (Q : Int32 → MM → Prop) : Prop :=
  G9_all 154 μ (fun r23 μ22 => Q r23 μ22)
def G8_tellShare (v1 : Int32) (μ : MM) (Q : Int32 → MM → Prop) : Prop :=
  G10_isFilter v1 μ (fun r15 μ14 => ((¬ r15 = 0 → G8_gather 154 v1 (-1) μ14 (fun μ17 => G7_clear μ17 (fun μ18 => G9_all 154 μ18 (fun r20 μ19 => ((r20 ≤ 0 → G8_tellShare_J75 μ19 Q) ∧ (¬ (r20 ≤ 0) → G9_all 154 μ19 (fun r25 μ24 => G7_addFraction (((gI μ19 156 0) + (gI μ19 156 1)).toInt64) (r25.toInt64) μ24 (fun μ26 => G8_tellShare_J75 μ26 Q)))))))) ∧ (r15 = 0 → Q (-1) μ14)))
def G11_share (v1 : Int32) (μ : MM) (Q : Int32 → MM → Prop) : Prop :=
  G8_tellShare v1 μ (fun r4 μ3 => Q r4 μ3)
def G9_asideLower (t : Nat) (μ : MM) (Q : Int64 → MM → Prop) : Prop :=
  Q (((gI μ (t + 1) 0).toInt64) * ((gI μ (t + 1) 1).toInt64)) μ
def G9_asideUpper (t : Nat) (μ : MM) (Q : Int64 → MM → Prop) : Prop :=
  Q ((((gI μ (t + 2) 0).toInt64) * ((gI μ (t + 1) 1).toInt64)) - (((gI μ (t + 2) 1).toInt64) * ((gI μ (t + 1) 0).toInt64))) μ
def G9_hasBoth_J22 (t : Nat)  (μ : MM)  (Q : Int32 → MM → Prop) : Prop :=
  Q 0 μ
def G9_hasBoth (t : Nat) (μ : MM) (Q : Int32 → MM → Prop) : Prop :=
  (((gI μ (t + 1) 0) ≤ 0 → G9_hasBoth_J22 t μ Q) ∧ (¬ ((gI μ (t + 1) 0) ≤ 0) → (((gI μ (t + 1) 1) ≤ 0 → G9_hasBoth_J22 t μ Q) ∧ (¬ ((gI μ (t + 1) 1) ≤ 0) → Q 1 μ))))
def G8_tellAside_L66    (Q : Int32 → MM → Prop) (K66 : Int32 × MM → Prop) (x : Int32 × MM) : Prop :=
  ((2 ≤ x.1 → Q 0 x.2) ∧ (¬ (2 ≤ x.1) → vp_in x.1 2 ∧ G7_add ((gI x.2 155 x.1.toNatClampNeg).toInt64) x.2 (fun μ31 => vp_in x.1 2 ∧ G7_add ((gI μ31 156 x.1.toNatClampNeg).toInt64) μ31 (fun μ33 => K66 ((x.1 + 1), μ33)))))
def G8_tellAside (v1 : Int32) (μ : MM) (Q : Int32 → MM → Prop) : Prop :=
  G10_isFilter v1 μ (fun r17 μ16 => ((¬ r17 = 0 → G8_gather 154 v1 (-1) μ16 (fun μ19 => G9_hasBoth 154 μ19 (fun r21 μ20 => ((¬ r21 = 0 → G7_clear μ20 (fun μ23 => G9_asideUpper 154 μ23 (fun r25 μ24 => G9_asideLower 154 μ24 (fun r27 μ26 => G7_addFraction r25 r27 μ26 (fun μ28 => Lp (G8_tellAside_L66 Q) (0, μ28)))))) ∧ (r21 = 0 → Q (-2) μ20))))) ∧ (r17 = 0 → Q (-1) μ16)))
def G11_aside (v1 : Int32) (μ : MM) (Q : Int32 → MM → Prop) : Prop :=
  G8_tellAside v1 μ (fun r4 μ3 => Q r4 μ3)
def G11_choices_L16  (p0 : Int32) (p1 : Int32)  (Q : Int64 → MM → Prop) (K16 : Int64 × Int32 × MM → Prop) (x : Int64 × Int32 × MM) : Prop :=
  ((p1 < x.2.1 → Q x.1 x.2.2) ∧ (¬ (p1 < x.2.1) → ¬ (x.2.1.toInt64) = 0 ∧ Bd ((x.1 * (((p0 - p1) + x.2.1).toInt64)) / (x.2.1.toInt64)) fun y6 => K16 (y6, (x.2.1 + 1), x.2.2)))
def G11_choices (v0 : Int32) (v1 : Int32) (μ : MM) (Q : Int64 → MM → Prop) : Prop :=
  ((v1 < 0 → Q 0 μ) ∧ (¬ (v1 < 0) → ((v1 ≤ v0 → Lp (G11_choices_L16 v0 v1 Q) (1, 1, μ)) ∧ (¬ (v1 ≤ v0) → Q 0 μ))))
def G8_joinWaysOfPart_L43  (p1 : Int32) (p2 : Int32) (p3 : Int32) (K33 : Int32 × MM → Prop) (Q : MM → Prop) (K43 : Int64 × Int32 × MM → Prop) (x : Int64 × Int32 × MM) : Prop :=
  ((p1 < x.2.1 → vp_in p3 97 ∧ Bd (sJ x.2.2 163 p3.toNatClampNeg x.1) fun μ20 => K33 ((p3 + (-1)), μ20)) ∧ (¬ (p1 < x.2.1) → ((p3 < x.2.1 → vp_in p3 97 ∧ Bd (sJ x.2.2 163 p3.toNatClampNeg x.1) fun μ23 => K33 ((p3 + (-1)), μ23)) ∧ (¬ (p3 < x.2.1) → G11_choices p1 x.2.1 x.2.2 (fun r25 μ24 => G11_choices p2 ((gI μ24 158 1) - x.2.1) μ24 (fun r27 μ26 => Bd (r25 * r27) fun y28 => vp_in (p3 - x.2.1) 97 ∧ Bd (x.1 + ((gJ μ26 163 ((p3 - x.2.1).toNatClampNeg)) * y28)) fun y30 => K43 (y30, (x.2.1 + 1), μ26)))))))
def G8_joinWaysOfPart_L33  (p1 : Int32) (p2 : Int32)  (Q : MM → Prop) (K33 : Int32 × MM → Prop) (x : Int32 × MM) : Prop :=
  ((x.1 < 0 → Q x.2) ∧ (¬ (x.1 < 0) → Lp (G8_joinWaysOfPart_L43 p1 p2 x.1 K33 Q) (0, 0, x.2)))
def G8_joinWaysOfPart  (μ : MM) (Q : MM → Prop) : Prop :=
  Bd ((gI μ 159 0) + (gI μ 159 1)) fun y13 => G9_all 157 μ (fun r15 μ14 => Bd (r15 - y13) fun y16 => Lp (G8_joinWaysOfPart_L33 y13 y16 Q) (96, μ14))
def G8_countWays_L31  (p1 : Int32)  (Q : MM → Prop) (K31 : Int32 × MM → Prop) (x : Int32 × MM) : Prop :=
  (((gI x.2 1 8) ≤ x.1 → Q x.2) ∧ (¬ ((gI x.2 1 8) ≤ x.1) → G8_gather 157 p1 x.1 x.2 (fun μ9 => G9_all 157 μ9 (fun r11 μ10 => ((r11 ≤ 0 → K31 ((x.1 + 1), μ10)) ∧ (¬ (r11 ≤ 0) → G8_joinWaysOfPart μ10 (fun μ13 => K31 ((x.1 + 1), μ13))))))))
def G8_countWays_L2  (p1 : Int32)  (Q : MM → Prop) (K2 : Int32 × MM → Prop) (x : Int32 × MM) : Prop :=
  ((96 < x.1 → Lp (G8_countWays_L31 p1 Q) (0, x.2)) ∧ (¬ (96 < x.1) → ((¬ x.1 = 0 → vp_in x.1 97 ∧ Bd (sJ x.2 163 x.1.toNatClampNeg 0) fun μ16 => K2 ((x.1 + 1), μ16)) ∧ (x.1 = 0 → vp_in x.1 97 ∧ Bd (sJ x.2 163 x.1.toNatClampNeg 1) fun μ18 => K2 ((x.1 + 1), μ18)))))
def G8_countWays (v1 : Int32) (μ : MM) (Q : MM → Prop) : Prop :=
  Lp (G8_countWays_L2 v1 Q) (0, μ)
def G8_tellOdds_J131  (p2 : Int32) (p3 : Int32) (p6 : Int64) (p8 : Int32) (q0 : Int64) (q1 : Int64) (μ : MM) (K56 : Int64 × Int64 × Int32 × MM → Prop) (Q : Int32 → MM → Prop) : Prop :=
  Bd (q1 + q0) fun y28 => vp_in p8 97 ∧ Bd (p6 + (gJ μ 163 p8.toNatClampNeg)) fun y30 => K56 (y28, y30, (p8 + 1), μ)
def G8_tellOdds_J111  (p2 : Int32) (p3 : Int32) (p4 : Int64) (p6 : Int64) (p8 : Int32) (q0 : Int32) (μ : MM) (K56 : Int64 × Int64 × Int32 × MM → Prop) (Q : Int32 → MM → Prop) : Prop :=
  ((q0 = 0 → G8_tellOdds_J131 p2 p3 p6 p8 0 p4 μ K56 Q) ∧ (¬ (q0 = 0) → vp_in p8 97 ∧ G8_tellOdds_J131 p2 p3 p6 p8 (gJ μ 163 p8.toNatClampNeg) p4 μ K56 Q))
def G8_tellOdds_L56  (p2 : Int32) (p3 : Int32)  (Q : Int32 → MM → Prop) (K56 : Int64 × Int64 × Int32 × MM → Prop) (x : Int64 × Int64 × Int32 × MM) : Prop :=
  ((96 < x.2.2.1 → G7_clear x.2.2.2 (fun μ22 => G7_addFraction x.1 x.2.1 μ22 (fun μ23 => Q 0 μ23))) ∧ (¬ (96 < x.2.2.1) → ((¬ p2 = 0 → ((¬ p2 = 1 → ((¬ x.2.2.1 = p3 → G8_tellOdds_J111 p2 p3 x.1 x.2.1 x.2.2.1 0 x.2.2.2 K56 Q) ∧ (x.2.2.1 = p3 → G8_tellOdds_J111 p2 p3 x.1 x.2.1 x.2.2.1 1 x.2.2.2 K56 Q))) ∧ (p2 = 1 → ((x.2.2.1 < p3 → G8_tellOdds_J111 p2 p3 x.1 x.2.1 x.2.2.1 0 x.2.2.2 K56 Q) ∧ (¬ (x.2.2.1 < p3) → G8_tellOdds_J111 p2 p3 x.1 x.2.1 x.2.2.1 1 x.2.2.2 K56 Q))))) ∧ (p2 = 0 → ((p3 < x.2.2.1 → G8_tellOdds_J111 p2 p3 x.1 x.2.1 x.2.2.1 0 x.2.2.2 K56 Q) ∧ (¬ (p3 < x.2.2.1) → G8_tellOdds_J111 p2 p3 x.1 x.2.1 x.2.2.1 1 x.2.2.2 K56 Q))))))
def G8_tellOdds (v1 : Int32) (v2 : Int32) (μ : MM) (Q : Int32 → MM → Prop) : Prop :=
  G10_isFilter v1 μ (fun r13 μ12 => ((r13 = 0 → Q (-1) μ12) ∧ (¬ (r13 = 0) → G11_within v2 0 2 μ12 (fun r16 μ15 => ((¬ r16 = 0 → G8_countWays v1 μ15 (fun μ18 => G8_gather 154 v1 (-1) μ18 (fun μ19 => Bd (gI μ19 156 1) fun y20 => Lp (G8_tellOdds_L56 v2 y20 Q) (0, 0, 0, μ19)))) ∧ (r16 = 0 → Q (-1) μ15))))))
def G11_odds (v1 : Int32) (v2 : Int32) (μ : MM) (Q : Int32 → MM → Prop) : Prop :=
  G8_tellOdds v1 v2 μ (fun r4 μ3 => Q r4 μ3)
def G9_becomeWithout_L2 (t : Nat) (a1 : Nat) (a2 : Nat)   (Q : MM → Prop) (K2 : Int32 × MM → Prop) (x : Int32 × MM) : Prop :=
  ((2 ≤ x.1 → Q x.2) ∧ (¬ (2 ≤ x.1) → vp_in x.1 2 ∧ vp_in x.1 2 ∧ vp_in x.1 2 ∧ Bd (sI x.2 (t + 1) x.1.toNatClampNeg ((gI x.2 (a1 + 1) x.1.toNatClampNeg) - (gI x.2 (a2 + 1) x.1.toNatClampNeg))) fun μ13 => vp_in x.1 2 ∧ vp_in x.1 2 ∧ vp_in x.1 2 ∧ Bd (sI μ13 (t + 2) x.1.toNatClampNeg ((gI μ13 (a1 + 2) x.1.toNatClampNeg) - (gI μ13 (a2 + 2) x.1.toNatClampNeg))) fun μ17 => K2 ((x.1 + 1), μ17)))
def G9_becomeWithout (t : Nat) (a1 : Nat) (a2 : Nat) (μ : MM) (Q : MM → Prop) : Prop :=
  Lp (G9_becomeWithout_L2 t a1 a2 Q) (0, μ)
def G8_tellHeaviest_J179  (p6 : Int32) (p9 : Int64) (p11 : Int64) (μ : MM) (K33 : Int32 × Int64 × Int64 × Int32 × MM → Prop) (Q : Int32 → MM → Prop) : Prop :=
  K33 (p6, p9, p11, (p6 + 1), μ)
def G8_tellHeaviest_J142  (p1 : Int32) (p2 : Int64) (p4 : Int64) (p6 : Int32) (q0 : Int64) (μ : MM) (K33 : Int32 × Int64 × Int64 × Int32 × MM → Prop) (Q : Int32 → MM → Prop) : Prop :=
  G9_asideLower 154 μ (fun r63 μ62 => G9_asideLower 160 μ62 (fun r65 μ64 => Bd (r63 * r65) fun y66 => ((p1 = (-1) → G8_tellHeaviest_J179 p6 q0 y66 μ64 K33 Q) ∧ (¬ (p1 = (-1)) → (((lg_cmp (q0 * p4) (p2 * y66)) ≤ 0 → K33 (p1, p2, p4, (p6 + 1), μ64)) ∧ (¬ ((lg_cmp (q0 * p4) (p2 * y66)) ≤ 0) → G8_tellHeaviest_J179 p6 q0 y66 μ64 K33 Q))))))
def G8_tellHeaviest_L33    (Q : Int32 → MM → Prop) (K33 : Int32 × Int64 × Int64 × Int32 × MM → Prop) (x : Int32 × Int64 × Int64 × Int32 × MM) : Prop :=
  (((gI x.2.2.2.2 1 8) ≤ x.2.2.2.1 → ((¬ x.1 = (-1) → G8_gather 157 (-1) x.1 x.2.2.2.2 (fun μ36 => G9_becomeWithout 160 154 157 μ36 (fun μ37 => G7_clear μ37 (fun μ38 => G9_asideUpper 160 μ38 (fun r40 μ39 => G9_asideLower 160 μ39 (fun r42 μ41 => G7_addFraction r40 r42 μ41 (fun μ43 => Q x.1 μ43))))))) ∧ (x.1 = (-1) → Q (-2) x.2.2.2.2))) ∧ (¬ ((gI x.2.2.2.2 1 8) ≤ x.2.2.2.1) → G8_gather 157 (-1) x.2.2.2.1 x.2.2.2.2 (fun μ44 => G9_becomeWithout 160 154 157 μ44 (fun μ45 => G9_all 157 μ45 (fun r47 μ46 => ((r47 = 0 → K33 (x.1, x.2.1, x.2.2.1, (x.2.2.2.1 + 1), μ46)) ∧ (¬ (r47 = 0) → G9_hasBoth 160 μ46 (fun r50 μ49 => ((¬ r50 = 0 → G9_asideUpper 154 μ49 (fun r53 μ52 => G9_asideLower 160 μ52 (fun r55 μ54 => G9_asideUpper 160 μ54 (fun r57 μ56 => G9_asideLower 154 μ56 (fun r59 μ58 => Bd ((r53 * r55) - (r57 * r59)) fun y60 => ((0 ≤ (lg_cmp y60 0) → G8_tellHeaviest_J142 x.1 x.2.1 x.2.2.1 x.2.2.2.1 y60 μ58 K33 Q) ∧ (¬ (0 ≤ (lg_cmp y60 0)) → G8_tellHeaviest_J142 x.1 x.2.1 x.2.2.1 x.2.2.2.1 (-y60) μ58 K33 Q))))))) ∧ (r50 = 0 → K33 (x.1, x.2.1, x.2.2.1, (x.2.2.2.1 + 1), μ49)))))))))))
def G8_tellHeaviest  (μ : MM) (Q : Int32 → MM → Prop) : Prop :=
  G8_gather 154 (-1) (-1) μ (fun μ30 => G9_hasBoth 154 μ30 (fun r32 μ31 => ((¬ r32 = 0 → Lp (G8_tellHeaviest_L33 Q) ((-1), 0, 1, 0, μ31)) ∧ (r32 = 0 → Q (-2) μ31))))
def G11_weighs  (μ : MM) (Q : Int32 → MM → Prop) : Prop :=
  G8_tellHeaviest μ (fun r4 μ3 => Q r4 μ3)
def G8_gatherNames_L105    (Q : Int32 → MM → Prop) (K105 : Int32 × Int32 × MM → Prop) (x : Int32 × Int32 × MM) : Prop :=
  (((gI x.2.2 1 4) ≤ x.2.1 → Q x.1 x.2.2) ∧ (¬ ((gI x.2.2 1 4) ≤ x.2.1) → vp_in x.2.1 12 ∧ (((gI x.2.2 164 x.2.1.toNatClampNeg) ≤ 0 → K105 (x.1, (x.2.1 + 1), x.2.2)) ∧ (¬ ((gI x.2.2 164 x.2.1.toNatClampNeg) ≤ 0) → vp_in x.1 12 ∧ Bd (sI x.2.2 166 x.1.toNatClampNeg x.2.1) fun μ21 => K105 ((x.1 + 1), (x.2.1 + 1), μ21)))))
def G8_gatherNames_J93  (p1 : Int32) (q0 : Int32) (q1 : Int32) (q2 : Int32) (μ : MM) (K30 : Int32 × MM → Prop) (Q : Int32 → MM → Prop) : Prop :=
  vp_in q2 12 ∧ Bd (sI μ 165 q2.toNatClampNeg (q1 + q0)) fun μ30 => K30 ((p1 + 1), μ30)
def G8_gatherNames_L30    (Q : Int32 → MM → Prop) (K30 : Int32 × MM → Prop) (x : Int32 × MM) : Prop :=
  (((gI x.2 1 10) ≤ x.1 → Lp (G8_gatherNames_L105 Q) (0, 0, x.2)) ∧ (¬ ((gI x.2 1 10) ≤ x.1) → vp_in x.1 96 ∧ (((gI x.2 (19 + x.1.toNatClampNeg) 6) = 0 → K30 ((x.1 + 1), x.2)) ∧ (¬ ((gI x.2 (19 + x.1.toNatClampNeg) 6) = 0) → vp_in (gI x.2 (19 + x.1.toNatClampNeg) 1) 12 ∧ vp_in (gI x.2 (19 + x.1.toNatClampNeg) 1) 12 ∧ Bd (sI x.2 164 ((gI x.2 (19 + x.1.toNatClampNeg) 1).toNatClampNeg) ((gI x.2 164 ((gI x.2 (19 + x.1.toNatClampNeg) 1).toNatClampNeg)) + 1)) fun μ26 => vp_in (gI μ26 (19 + x.1.toNatClampNeg) 1) 12 ∧ (((gI μ26 (19 + x.1.toNatClampNeg) 7) = 0 → G8_gatherNames_J93 x.1 0 (gI μ26 165 ((gI μ26 (19 + x.1.toNatClampNeg) 1).toNatClampNeg)) (gI μ26 (19 + x.1.toNatClampNeg) 1) μ26 K30 Q) ∧ (¬ ((gI μ26 (19 + x.1.toNatClampNeg) 7) = 0) → G8_gatherNames_J93 x.1 1 (gI μ26 165 ((gI μ26 (19 + x.1.toNatClampNeg) 1).toNatClampNeg)) (gI μ26 (19 + x.1.toNatClampNeg) 1) μ26 K30 Q))))))
def G8_gatherNames_L2    (Q : Int32 → MM → Prop) (K2 : Int32 × MM → Prop) (x : Int32 × MM) : Prop :=
  ((12 ≤ x.1 → Lp (G8_gatherNames_L30 Q) (0, x.2)) ∧ (¬ (12 ≤ x.1) → vp_in x.1 12 ∧ Bd (sI x.2 164 x.1.toNatClampNeg 0) fun μ32 => vp_in x.1 12 ∧ Bd (sI μ32 165 x.1.toNatClampNeg 0) fun μ34 => K2 ((x.1 + 1), μ34)))
def G8_gatherNames  (μ : MM) (Q : Int32 → MM → Prop) : Prop :=
  Lp (G8_gatherNames_L2 Q) (0, μ)
def G8_tellName (v1 : Int32) (μ : MM) (Q : Int32 → MM → Prop) : Prop :=
  G10_isName v1 μ (fun r12 μ11 => ((¬ r12 = 0 → G8_gatherNames μ11 (fun r15 μ14 => G7_clear μ14 (fun μ16 => vp_in v1 12 ∧ (((gI μ16 164 v1.toNatClampNeg) ≤ 0 → vp_in v1 12 ∧ Q (gI μ16 164 v1.toNatClampNeg) μ16) ∧ (¬ ((gI μ16 164 v1.toNatClampNeg) ≤ 0) → vp_in v1 12 ∧ vp_in v1 12 ∧ G7_addFraction ((gI μ16 165 v1.toNatClampNeg).toInt64) ((gI μ16 164 v1.toNatClampNeg).toInt64) μ16 (fun μ22 => vp_in v1 12 ∧ Q (gI μ22 164 v1.toNatClampNeg) μ22)))))) ∧ (r12 = 0 → Q (-1) μ11)))
def G11_names (v1 : Int32) (μ : MM) (Q : Int32 → MM → Prop) : Prop :=
  G8_tellName v1 μ (fun r4 μ3 => Q r4 μ3)
def G11_leastMultiple (v0 : Int64) (v2 : Int64) (μ : MM) (Q : Int64 → MM → Prop) : Prop :=
  G11_greatestDivisor v0 v2 μ (fun r5 μ4 => ((¬ (lg_cmp r5 0) = 0 → ¬ r5 = 0 ∧ Q ((v0 / r5) * v2) μ4) ∧ ((lg_cmp r5 0) = 0 → Q 0 μ4)))
def G8_scaleShares_L38  (p1 : Int32) (p2 : Int64)  (Q : MM → Prop) (K38 : Int32 × MM → Prop) (x : Int32 × MM) : Prop :=
  ((p1 ≤ x.1 → Q x.2) ∧ (¬ (p1 ≤ x.1) → vp_in x.1 12 ∧ vp_in (gI x.2 166 x.1.toNatClampNeg) 12 ∧ Bd (gI x.2 164 ((gI x.2 166 x.1.toNatClampNeg).toNatClampNeg)) fun y16 => ((y16 ≤ 0 → vp_in x.1 12 ∧ Bd (sJ x.2 167 x.1.toNatClampNeg 0) fun μ19 => K38 ((x.1 + 1), μ19)) ∧ (¬ (y16 ≤ 0) → vp_in x.1 12 ∧ vp_in (gI x.2 166 x.1.toNatClampNeg) 12 ∧ ¬ (y16.toInt64) = 0 ∧ vp_in x.1 12 ∧ Bd (sJ x.2 167 x.1.toNatClampNeg (((gI x.2 165 ((gI x.2 166 x.1.toNatClampNeg).toNatClampNeg)).toInt64) * (p2 / (y16.toInt64)))) fun μ24 => K38 ((x.1 + 1), μ24)))))
def G8_scaleShares_L5  (p1 : Int32)  (Q : MM → Prop) (K5 : Int64 × Int32 × MM → Prop) (x : Int64 × Int32 × MM) : Prop :=
  ((p1 ≤ x.2.1 → Lp (G8_scaleShares_L38 p1 x.1 Q) (0, x.2.2)) ∧ (¬ (p1 ≤ x.2.1) → vp_in x.2.1 12 ∧ vp_in (gI x.2.2 166 x.2.1.toNatClampNeg) 12 ∧ G11_leastMultiple x.1 ((gI x.2.2 164 ((gI x.2.2 166 x.2.1.toNatClampNeg).toNatClampNeg)).toInt64) x.2.2 (fun r28 μ27 => K5 (r28, (x.2.1 + 1), μ27))))
def G8_scaleShares (v1 : Int32) (μ : MM) (Q : MM → Prop) : Prop :=
  Lp (G8_scaleShares_L5 v1 Q) (1, 0, μ)
def G8_sumOfShares_L5  (p1 : Int32) (p2 : Int32)  (Q : Int64 → MM → Prop) (K5 : Int64 × Int32 × MM → Prop) (x : Int64 × Int32 × MM) : Prop :=
  ((p2 ≤ x.2.1 → Q x.1 x.2.2) ∧ (¬ (p2 ≤ x.2.1) → ((¬ ((p1 >>> (x.2.1 &&& 31)) &&& 1) = 1 → Bd (x.1 + 0) fun y4 => K5 (y4, (x.2.1 + 1), x.2.2)) ∧ (((p1 >>> (x.2.1 &&& 31)) &&& 1) = 1 → vp_in x.2.1 12 ∧ Bd (x.1 + (gJ x.2.2 167 x.2.1.toNatClampNeg)) fun y6 => K5 (y6, (x.2.1 + 1), x.2.2)))))
def G8_sumOfShares (v1 : Int32) (v2 : Int32) (μ : MM) (Q : Int64 → MM → Prop) : Prop :=
  Lp (G8_sumOfShares_L5 v1 v2 Q) (0, 0, μ)
def GJ6_bitCount_0f7a4 (v0 : Int32) (μ : MM) (Q : Int32 → MM → Prop) : Prop :=
  Bd (v0 - (((v0.toUInt32 >>> ((1 : Int32).toUInt32 &&& Int32.toUInt32 31)).toInt32) &&& 1431655765)) fun y1 => Bd ((y1 &&& 858993459) + (((y1.toUInt32 >>> ((2 : Int32).toUInt32 &&& Int32.toUInt32 31)).toInt32) &&& 858993459)) fun y2 => Bd ((y2 + ((y2.toUInt32 >>> ((4 : Int32).toUInt32 &&& Int32.toUInt32 31)).toInt32)) &&& 252645135) fun y3 => Bd (y3 + ((y3.toUInt32 >>> ((8 : Int32).toUInt32 &&& Int32.toUInt32 31)).toInt32)) fun y4 => Bd (y4 + ((y4.toUInt32 >>> ((16 : Int32).toUInt32 &&& Int32.toUInt32 31)).toInt32)) fun y5 => Q (y5 &&& 63) μ
def G8_tellDrawn_L70  (p1 : Int32) (p3 : Int32) (p4 : Int64)  (Q : Int32 → MM → Prop) (K70 : Int64 × Int32 × MM → Prop) (x : Int64 × Int32 × MM) : Prop :=
  (((1 <<< (p1 &&& 31)) ≤ x.2.1 → G7_clear x.2.2 (fun μ28 => G11_choices p1 p3 μ28 (fun r30 μ29 => G7_addFraction x.1 r30 μ29 (fun μ31 => Q 0 μ31)))) ∧ (¬ ((1 <<< (p1 &&& 31)) ≤ x.2.1) → GJ6_bitCount_0f7a4 x.2.1 x.2.2 (fun r33 μ32 => ((¬ r33 = p3 → K70 (x.1, (x.2.1 + 1), μ32)) ∧ (r33 = p3 → G8_sumOfShares x.2.1 p1 μ32 (fun r36 μ35 => ((0 < (lg_cmp r36 p4) → K70 (x.1, (x.2.1 + 1), μ35)) ∧ (¬ (0 < (lg_cmp r36 p4)) → Bd (x.1 + 1) fun y38 => K70 (y38, (x.2.1 + 1), μ35)))))))))
def G8_tellDrawn_L21  (p1 : Int32)  (Q : Int32 → MM → Prop) (K21 : Int32 × Int32 × MM → Prop) (x : Int32 × Int32 × MM) : Prop :=
  ((p1 ≤ x.2.1 → GJ6_bitCount_0f7a4 x.1 x.2.2 (fun r24 μ23 => G8_sumOfShares x.1 p1 μ23 (fun r26 μ25 => Lp (G8_tellDrawn_L70 p1 r24 r26 Q) (0, 0, μ25)))) ∧ (¬ (p1 ≤ x.2.1) → vp_in x.2.1 12 ∧ vp_in (gI x.2.2 166 x.2.1.toNatClampNeg) 12 ∧ Bd (x.1 ||| ((gI x.2.2 2 ((gI x.2.2 166 x.2.1.toNatClampNeg).toNatClampNeg)) <<< (x.2.1 &&& 31))) fun y41 => K21 (y41, (x.2.1 + 1), x.2.2)))
def G8_tellDrawn  (μ : MM) (Q : Int32 → MM → Prop) : Prop :=
  G8_gatherNames μ (fun r19 μ18 => ((¬ r19 = 0 → G8_scaleShares r19 μ18 (fun μ21 => Lp (G8_tellDrawn_L21 r19 Q) (0, 0, μ21))) ∧ (r19 = 0 → Q (-2) μ18)))
def G11_drawn  (μ : MM) (Q : Int32 → MM → Prop) : Prop :=
  G8_tellDrawn μ (fun r4 μ3 => Q r4 μ3)
def GJ6_compare_7cf53 (v0 : Int32) (v1 : Int32) (μ : MM) (Q : Int32 → MM → Prop) : Prop :=
  ((v1 ≤ v0 → ((¬ v0 = v1 → Q 1 μ) ∧ (v0 = v1 → Q 0 μ))) ∧ (¬ (v1 ≤ v0) → Q (-1) μ))
def G8_compareBy (v1 : Int32) (v2 : Int32) (v3 : Int32) (μ : MM) (Q : Int32 → MM → Prop) : Prop :=
  ((v1 = 0 → vp_in v2 12 ∧ vp_in v3 12 ∧ GJ6_compare_7cf53 (gI μ 2 v2.toNatClampNeg) (gI μ 2 v3.toNatClampNeg) μ (fun r21 μ20 => Q r21 μ20)) ∧ (v1 = 1 → vp_in v2 12 ∧ vp_in v3 12 ∧ GJ6_compare_7cf53 (gI μ 3 v2.toNatClampNeg) (gI μ 3 v3.toNatClampNeg) μ (fun r26 μ25 => Q r26 μ25)) ∧ (v1 = 2 → vp_in v2 12 ∧ vp_in v3 12 ∧ GJ6_compare_7cf53 (gI μ 4 v2.toNatClampNeg) (gI μ 4 v3.toNatClampNeg) μ (fun r31 μ30 => Q r31 μ30)) ∧ (¬ v1 = 0 → ¬ v1 = 1 → ¬ v1 = 2 → vp_in v2 12 ∧ vp_in v3 12 ∧ GJ6_compare_7cf53 (gI μ 5 v2.toNatClampNeg) (gI μ 5 v3.toNatClampNeg) μ (fun r35 μ34 => Q r35 μ34)))
def G8_compareShares (v1 : Int32) (v2 : Int32) (μ : MM) (Q : Int32 → MM → Prop) : Prop :=
  vp_in v1 12 ∧ vp_in v2 12 ∧ vp_in v2 12 ∧ vp_in v1 12 ∧ GJ6_compare_7cf53 ((gI μ 165 v1.toNatClampNeg) * (gI μ 164 v2.toNatClampNeg)) ((gI μ 165 v2.toNatClampNeg) * (gI μ 164 v1.toNatClampNeg)) μ (fun r12 μ11 => Q r12 μ11)
def G8_pairsGoing_L15  (p1 : Int32) (p2 : Int32) (p3 : Int32) (p5 : Int32) (K6 : Int32 × Int32 × MM → Prop) (Q : Int32 → MM → Prop) (K15 : Int32 × Int32 × MM → Prop) (x : Int32 × Int32 × MM) : Prop :=
  ((p5 ≤ x.2.1 → K6 (x.1, (p5 + 1), x.2.2)) ∧ (¬ (p5 ≤ x.2.1) → vp_in p5 12 ∧ vp_in x.2.1 12 ∧ G8_compareBy p1 (gI x.2.2 166 p5.toNatClampNeg) (gI x.2.2 166 x.2.1.toNatClampNeg) x.2.2 (fun r16 μ15 => vp_in p5 12 ∧ vp_in x.2.1 12 ∧ G8_compareShares (gI μ15 166 p5.toNatClampNeg) (gI μ15 166 x.2.1.toNatClampNeg) μ15 (fun r20 μ19 => Bd (r16 * r20) fun y21 => GJ6_compare_7cf53 y21 0 μ19 (fun r23 μ22 => ((¬ r23 = p2 → Bd (x.1 + 0) fun y25 => K15 (y25, (x.2.1 + 1), μ22)) ∧ (r23 = p2 → Bd (x.1 + 1) fun y26 => K15 (y26, (x.2.1 + 1), μ22))))))))
def G8_pairsGoing_L6  (p1 : Int32) (p2 : Int32) (p3 : Int32)  (Q : Int32 → MM → Prop) (K6 : Int32 × Int32 × MM → Prop) (x : Int32 × Int32 × MM) : Prop :=
  ((p3 ≤ x.2.1 → Q x.1 x.2.2) ∧ (¬ (p3 ≤ x.2.1) → Lp (G8_pairsGoing_L15 p1 p2 p3 x.2.1 K6 Q) (x.1, 0, x.2.2)))
def G8_pairsGoing (v1 : Int32) (v2 : Int32) (v3 : Int32) (μ : MM) (Q : Int32 → MM → Prop) : Prop :=
  Lp (G8_pairsGoing_L6 v1 v2 v3 Q) (0, 0, μ)
def G8_tellGoing (v1 : Int32) (μ : MM) (Q : Int32 → MM → Prop) : Prop :=
  G11_within v1 0 3 μ (fun r15 μ14 => ((¬ r15 = 0 → G8_gatherNames μ14 (fun r18 μ17 => G7_clear μ17 (fun μ19 => G8_pairsGoing v1 (-1) r18 μ19 (fun r21 μ20 => G7_add (r21.toInt64) μ20 (fun μ22 => G8_pairsGoing v1 0 r18 μ22 (fun r24 μ23 => G7_add (r24.toInt64) μ23 (fun μ25 => G8_pairsGoing v1 1 r18 μ25 (fun r27 μ26 => Q r27 μ26)))))))) ∧ (r15 = 0 → Q (-1) μ14)))
def G11_goes (v1 : Int32) (μ : MM) (Q : Int32 → MM → Prop) : Prop :=
  G8_tellGoing v1 μ (fun r4 μ3 => Q r4 μ3)
def G8_tellSaid_L12  (p1 : Int32)  (Q : Int32 → MM → Prop) (K12 : Int32 × Int32 × Int32 × MM → Prop) (x : Int32 × Int32 × Int32 × MM) : Prop :=
  ((4 ≤ x.2.2.1 → G7_clear x.2.2.2 (fun μ12 => G7_add (x.2.1.toInt64) μ12 (fun μ13 => Q x.1 μ13))) ∧ (¬ (4 ≤ x.2.2.1) → G8_pairsGoing x.2.2.1 1 p1 x.2.2.2 (fun r15 μ14 => G8_pairsGoing x.2.2.1 (-1) p1 μ14 (fun r17 μ16 => Bd (r15 - r17) fun y18 => (((if 0 ≤ y18 then y18 else 0 - y18) ≤ (if 0 ≤ x.2.1 then x.2.1 else 0 - x.2.1) → K12 (x.1, x.2.1, (x.2.2.1 + 1), μ16)) ∧ (¬ ((if 0 ≤ y18 then y18 else 0 - y18) ≤ (if 0 ≤ x.2.1 then x.2.1 else 0 - x.2.1)) → K12 (x.2.2.1, y18, (x.2.2.1 + 1), μ16)))))))
def G8_tellSaid  (μ : MM) (Q : Int32 → MM → Prop) : Prop :=
  G8_gatherNames μ (fun r10 μ9 => Lp (G8_tellSaid_L12 r10 Q) (0, 0, 0, μ9))
def G11_says  (μ : MM) (Q : Int32 → MM → Prop) : Prop :=
  G8_tellSaid μ (fun r4 μ3 => Q r4 μ3)
def G8_isChildPair_J69   (μ : MM)  (Q : Int32 → MM → Prop) : Prop :=
  Q 0 μ
def G8_isChildPair (v1 : Int32) (v2 : Int32) (v3 : Int32) (μ : MM) (Q : Int32 → MM → Prop) : Prop :=
  vp_in v1 12 ∧ vp_in v2 12 ∧ ((¬ (gI μ 2 v1.toNatClampNeg) = (gI μ 2 v2.toNatClampNeg) → G8_isChildPair_J69 μ Q) ∧ ((gI μ 2 v1.toNatClampNeg) = (gI μ 2 v2.toNatClampNeg) → vp_in v1 12 ∧ vp_in v2 12 ∧ ((¬ (gI μ 3 v1.toNatClampNeg) = (gI μ 3 v2.toNatClampNeg) → G8_isChildPair_J69 μ Q) ∧ ((gI μ 3 v1.toNatClampNeg) = (gI μ 3 v2.toNatClampNeg) → vp_in v1 12 ∧ vp_in v2 12 ∧ ((((gI μ 4 v1.toNatClampNeg) - (gI μ 4 v2.toNatClampNeg)) < v3 → G8_isChildPair_J69 μ Q) ∧ (¬ (((gI μ 4 v1.toNatClampNeg) - (gI μ 4 v2.toNatClampNeg)) < v3) → Q 1 μ))))))
def G8_tellChild_J115  (p1 : Int32) (p2 : Int32) (p3 : Int32) (p4 : Int32) (p6 : Int32) (p7 : Int32) (q0 : Int32) (q1 : Int32) (μ : MM) (K28 : Int32 × Int32 × Int32 × Int32 × MM → Prop) (K37 : Int32 × Int32 × Int32 × Int32 × MM → Prop) (Q : Int32 → MM → Prop) : Prop :=
  Bd (q1 + q0) fun y38 => K37 (p3, p4, y38, (p7 + 1), μ)
def G8_tellChild_J100  (p1 : Int32) (p2 : Int32) (p3 : Int32) (p5 : Int32) (p6 : Int32) (p7 : Int32) (p8 : Int32) (q0 : Int32) (q1 : Int32) (μ : MM) (K28 : Int32 × Int32 × Int32 × Int32 × MM → Prop) (K37 : Int32 × Int32 × Int32 × Int32 × MM → Prop) (Q : Int32 → MM → Prop) : Prop :=
  Bd (q1 + q0) fun y36 => ((0 ≤ p8 → G8_tellChild_J115 p1 p2 p3 y36 p6 p7 0 p5 μ K28 K37 Q) ∧ (¬ (0 ≤ p8) → G8_tellChild_J115 p1 p2 p3 y36 p6 p7 1 p5 μ K28 K37 Q))
def G8_tellChild_L37  (p1 : Int32) (p2 : Int32) (p6 : Int32) (K28 : Int32 × Int32 × Int32 × Int32 × MM → Prop) (Q : Int32 → MM → Prop) (K37 : Int32 × Int32 × Int32 × Int32 × MM → Prop) (x : Int32 × Int32 × Int32 × Int32 × MM) : Prop :=
  ((p2 ≤ x.2.2.2.1 → K28 (x.1, x.2.1, x.2.2.1, (p6 + 1), x.2.2.2.2)) ∧ (¬ (p2 ≤ x.2.2.2.1) → vp_in p6 12 ∧ vp_in x.2.2.2.1 12 ∧ G8_isChildPair (gI x.2.2.2.2 166 p6.toNatClampNeg) (gI x.2.2.2.2 166 x.2.2.2.1.toNatClampNeg) p1 x.2.2.2.2 (fun r29 μ28 => ((r29 = 0 → K37 (x.1, x.2.1, x.2.2.1, (x.2.2.2.1 + 1), μ28)) ∧ (¬ (r29 = 0) → vp_in p6 12 ∧ vp_in x.2.2.2.1 12 ∧ G8_compareShares (gI μ28 166 p6.toNatClampNeg) (gI μ28 166 x.2.2.2.1.toNatClampNeg) μ28 (fun r34 μ33 => ((r34 ≤ 0 → G8_tellChild_J100 p1 p2 (x.1 + 1) x.2.2.1 p6 x.2.2.2.1 r34 0 x.2.1 μ33 K28 K37 Q) ∧ (¬ (r34 ≤ 0) → G8_tellChild_J100 p1 p2 (x.1 + 1) x.2.2.1 p6 x.2.2.2.1 r34 1 x.2.1 μ33 K28 K37 Q))))))))
def G8_tellChild_L28  (p1 : Int32) (p2 : Int32)  (Q : Int32 → MM → Prop) (K28 : Int32 × Int32 × Int32 × Int32 × MM → Prop) (x : Int32 × Int32 × Int32 × Int32 × MM) : Prop :=
  ((p2 ≤ x.2.2.2.1 → G7_clear x.2.2.2.2 (fun μ22 => G7_add (x.1.toInt64) μ22 (fun μ23 => G7_add (x.2.2.1.toInt64) μ23 (fun μ24 => Q x.2.1 μ24)))) ∧ (¬ (p2 ≤ x.2.2.2.1) → Lp (G8_tellChild_L37 p1 p2 x.2.2.2.1 K28 Q) (x.1, x.2.1, x.2.2.1, 0, x.2.2.2.2)))
def G8_tellChild (v1 : Int32) (μ : MM) (Q : Int32 → MM → Prop) : Prop :=
  G11_within v1 1 9 μ (fun r17 μ16 => ((¬ r17 = 0 → G8_gatherNames μ16 (fun r20 μ19 => Lp (G8_tellChild_L28 v1 r20 Q) (0, 0, 0, 0, μ19))) ∧ (r17 = 0 → Q (-1) μ16)))
def G11_child (v1 : Int32) (μ : MM) (Q : Int32 → MM → Prop) : Prop :=
  G8_tellChild v1 μ (fun r4 μ3 => Q r4 μ3)
def G4_rungIn_J64  (p1 : Int32) (p2 : Int32) (p4 : Int32) (q0 : Int32) (μ : MM) (K5 : Int32 × Int32 × MM → Prop) (Q : Int32 → MM → Prop) : Prop :=
  Bd (q0 + 0) fun y7 => K5 (y7, (p4 + 1), μ)
def G4_rungIn_L5  (p1 : Int32) (p2 : Int32)  (Q : Int32 → MM → Prop) (K5 : Int32 × Int32 × MM → Prop) (x : Int32 × Int32 × MM) : Prop :=
  (((gI x.2.2 1 10) ≤ x.2.1 → Q x.1 x.2.2) ∧ (¬ ((gI x.2.2 1 10) ≤ x.2.1) → vp_in x.2.1 96 ∧ ((¬ (gI x.2.2 (19 + x.2.1.toNatClampNeg) 0) = p1 → G4_rungIn_J64 p1 p2 x.2.1 x.1 x.2.2 K5 Q) ∧ ((gI x.2.2 (19 + x.2.1.toNatClampNeg) 0) = p1 → (((gI x.2.2 (19 + x.2.1.toNatClampNeg) 7) = 0 → G4_rungIn_J64 p1 p2 x.2.1 x.1 x.2.2 K5 Q) ∧ (¬ ((gI x.2.2 (19 + x.2.1.toNatClampNeg) 7) = 0) → G10_peopleOf (19 + x.2.1.toNatClampNeg) x.2.2 (fun r10 μ9 => ((¬ r10 = p2 → G4_rungIn_J64 p1 p2 x.2.1 x.1 μ9 K5 Q) ∧ (r10 = p2 → Bd (x.1 + 1) fun y12 => K5 (y12, (x.2.1 + 1), μ9))))))))))
def G4_rungIn (v1 : Int32) (v2 : Int32) (μ : MM) (Q : Int32 → MM → Prop) : Prop :=
  Lp (G4_rungIn_L5 v1 v2 Q) (0, 0, μ)
def G10_hasRead_L2  (p1 : Int32)  (Q : Int32 → MM → Prop) (K2 : Int32 × MM → Prop) (x : Int32 × MM) : Prop :=
  (((gI x.2 1 10) ≤ x.1 → Q 0 x.2) ∧ (¬ ((gI x.2 1 10) ≤ x.1) → vp_in x.1 96 ∧ ((¬ (gI x.2 (19 + x.1.toNatClampNeg) 0) = p1 → K2 ((x.1 + 1), x.2)) ∧ ((gI x.2 (19 + x.1.toNatClampNeg) 0) = p1 → vp_in x.1 96 ∧ (((gI x.2 (19 + x.1.toNatClampNeg) 6) = 0 → K2 ((x.1 + 1), x.2)) ∧ (¬ ((gI x.2 (19 + x.1.toNatClampNeg) 6) = 0) → Q 1 x.2))))))
def G10_hasRead (v1 : Int32) (μ : MM) (Q : Int32 → MM → Prop) : Prop :=
  Lp (G10_hasRead_L2 v1 Q) (0, μ)
def G4_housesWith_J76  (p1 : Int32) (p2 : Int32) (p4 : Int32) (q0 : Int32) (μ : MM) (K25 : Int32 × Int32 × MM → Prop) (Q : Int32 → MM → Prop) : Prop :=
  Bd (q0 + 0) fun y21 => K25 (y21, (p4 + 1), μ)
def G4_housesWith_L25  (p1 : Int32) (p2 : Int32)  (Q : Int32 → MM → Prop) (K25 : Int32 × Int32 × MM → Prop) (x : Int32 × Int32 × MM) : Prop :=
  (((gI x.2.2 1 8) ≤ x.2.1 → Q x.1 x.2.2) ∧ (¬ ((gI x.2.2 1 8) ≤ x.2.1) → G10_hasRead x.2.1 x.2.2 (fun r19 μ18 => ((r19 = 0 → G4_housesWith_J76 p1 p2 x.2.1 x.1 μ18 K25 Q) ∧ (¬ (r19 = 0) → G4_rungIn x.2.1 0 μ18 (fun r23 μ22 => ((¬ r23 = p1 → G4_housesWith_J76 p1 p2 x.2.1 x.1 μ22 K25 Q) ∧ (r23 = p1 → G4_rungIn x.2.1 1 μ22 (fun r26 μ25 => ((¬ r26 = p2 → G4_housesWith_J76 p1 p2 x.2.1 x.1 μ25 K25 Q) ∧ (r26 = p2 → Bd (x.1 + 1) fun y28 => K25 (y28, (x.2.1 + 1), μ25))))))))))))
def G4_housesWith (v1 : Int32) (v2 : Int32) (μ : MM) (Q : Int32 → MM → Prop) : Prop :=
  G11_within v1 0 4 μ (fun r12 μ11 => ((r12 = 0 → Q (-1) μ11) ∧ (¬ (r12 = 0) → G11_within v2 0 4 μ11 (fun r15 μ14 => ((¬ r15 = 0 → Lp (G4_housesWith_L25 v1 v2 Q) (0, 0, μ14)) ∧ (r15 = 0 → Q (-1) μ14))))))
def G11_table (v1 : Int32) (v2 : Int32) (μ : MM) (Q : Int32 → MM → Prop) : Prop :=
  G4_housesWith v1 v2 μ (fun r4 μ3 => Q r4 μ3)
def G4_become (v1 : Int32) (v2 : Int32) (v3 : Int32) (μ : MM) (Q : Int32 → MM → Prop) : Prop :=
  G11_within v1 0 3 μ (fun r12 μ11 => ((r12 = 0 → Q 0 μ11) ∧ (¬ (r12 = 0) → G11_within v2 0 100 μ11 (fun r15 μ14 => ((r15 = 0 → Q 0 μ14) ∧ (¬ (r15 = 0) → G11_within v3 0 100 μ14 (fun r18 μ17 => ((¬ r18 = 0 → vp_in v1 4 ∧ Bd (sI μ17 169 v1.toNatClampNeg v2) fun μ21 => vp_in v1 4 ∧ Bd (sI μ21 170 v1.toNatClampNeg v3) fun μ23 => Q 1 μ23) ∧ (r18 = 0 → Q 0 μ17)))))))))
def G11_kind (v1 : Int32) (v2 : Int32) (v3 : Int32) (μ : MM) (Q : Int32 → MM → Prop) : Prop :=
  G4_become v1 v2 v3 μ (fun r4 μ3 => bo r4 ∧ Q r4 μ3)
def G4_becomePart_L33  (p1 : Int32) (p2 : Int32)  (Q : Int32 → MM → Prop) (K33 : Int32 × Int32 × MM → Prop) (x : Int32 × Int32 × MM) : Prop :=
  ((4 ≤ x.2.1 → ((¬ x.1 = 0 → vp_in p1 4 ∧ Bd (gI x.2.2 171 p1.toNatClampNeg) fun y21 => vp_in p1 4 ∧ Bd (sI x.2.2 171 p1.toNatClampNeg p2) fun μ23 => Q y21 μ23) ∧ (x.1 = 0 → Q (-1) x.2.2))) ∧ (¬ (4 ≤ x.2.1) → vp_in x.2.1 4 ∧ Bd (x.1 + (gI x.2.2 171 x.2.1.toNatClampNeg)) fun y25 => K33 (y25, (x.2.1 + 1), x.2.2)))
def G4_becomePart (v1 : Int32) (v2 : Int32) (μ : MM) (Q : Int32 → MM → Prop) : Prop :=
  G11_within v1 0 3 μ (fun r11 μ10 => ((r11 = 0 → Q (-1) μ10) ∧ (¬ (r11 = 0) → G11_within v2 0 99 μ10 (fun r14 μ13 => ((¬ r14 = 0 → vp_in v1 4 ∧ Bd (v2 - (gI μ13 171 v1.toNatClampNeg)) fun y17 => Lp (G4_becomePart_L33 v1 v2 Q) (y17, 0, μ13)) ∧ (r14 = 0 → Q (-1) μ13))))))
def G11_parts (v1 : Int32) (v2 : Int32) (μ : MM) (Q : Int32 → MM → Prop) : Prop :=
  G4_becomePart v1 v2 μ (fun r4 μ3 => Q r4 μ3)
def G4_likelihood_J96  (p1 : Int32) (p2 : Int32) (p5 : Int32) (q0 : Int64) (q1 : Int64) (μ : MM) (K5 : Int64 × Int32 × MM → Prop) (Q : Int64 → MM → Prop) : Prop :=
  Bd (q1 * q0) fun y15 => K5 (y15, (p5 + 1), μ)
def G4_likelihood_J73  (p1 : Int32) (p2 : Int32) (p3 : Int64) (p5 : Int32) (p6 : Nat) (q0 : Int32) (μ : MM) (K5 : Int64 × Int32 × MM → Prop) (Q : Int64 → MM → Prop) : Prop :=
  (((gI μ p6 7) = 0 → G4_likelihood_J96 p1 p2 p5 ((100 - q0).toInt64) p3 μ K5 Q) ∧ (¬ ((gI μ p6 7) = 0) → G4_likelihood_J96 p1 p2 p5 (q0.toInt64) p3 μ K5 Q))
def G4_likelihood_L5  (p1 : Int32) (p2 : Int32)  (Q : Int64 → MM → Prop) (K5 : Int64 × Int32 × MM → Prop) (x : Int64 × Int32 × MM) : Prop :=
  (((gI x.2.2 1 10) ≤ x.2.1 → Q x.1 x.2.2) ∧ (¬ ((gI x.2.2 1 10) ≤ x.2.1) → vp_in x.2.1 96 ∧ ((¬ (gI x.2.2 (19 + x.2.1.toNatClampNeg) 0) = p1 → K5 (x.1, (x.2.1 + 1), x.2.2)) ∧ ((gI x.2.2 (19 + x.2.1.toNatClampNeg) 0) = p1 → (((gI x.2.2 (19 + x.2.1.toNatClampNeg) 6) = 0 → K5 (x.1, (x.2.1 + 1), x.2.2)) ∧ (¬ ((gI x.2.2 (19 + x.2.1.toNatClampNeg) 6) = 0) → G10_peopleOf (19 + x.2.1.toNatClampNeg) x.2.2 (fun r11 μ10 => ((¬ r11 = 0 → vp_in p2 4 ∧ G4_likelihood_J73 p1 p2 x.1 x.2.1 (19 + x.2.1.toNatClampNeg) (gI μ10 170 p2.toNatClampNeg) μ10 K5 Q) ∧ (r11 = 0 → vp_in p2 4 ∧ G4_likelihood_J73 p1 p2 x.1 x.2.1 (19 + x.2.1.toNatClampNeg) (gI μ10 169 p2.toNatClampNeg) μ10 K5 Q)))))))))
def G4_likelihood (v1 : Int32) (v2 : Int32) (μ : MM) (Q : Int64 → MM → Prop) : Prop :=
  Lp (G4_likelihood_L5 v1 v2 Q) (1, 0, μ)
def G4_sumOfLikely_L69  (p1 : Int32) (p2 : Int32) (p3 : Int64)  (Q : Int32 → MM → Prop) (K69 : Int64 × Int32 × MM → Prop) (x : Int64 × Int32 × MM) : Prop :=
  ((4 ≤ x.2.1 → Q (x.1.toInt32) x.2.2) ∧ (¬ (4 ≤ x.2.1) → ((¬ ((p2 >>> (x.2.1 &&& 31)) &&& 1) = 1 → Bd (x.1 + 0) fun y16 => K69 (y16, (x.2.1 + 1), x.2.2)) ∧ (((p2 >>> (x.2.1 &&& 31)) &&& 1) = 1 → vp_in p1 24 ∧ vp_in x.2.1 4 ∧ ¬ p3 = 0 ∧ Bd (x.1 + (((gJ x.2.2 (173 + p1.toNatClampNeg) x.2.1.toNatClampNeg) * 1000000) / p3)) fun y20 => K69 (y20, (x.2.1 + 1), x.2.2)))))
def G4_sumOfLikely_L5  (p1 : Int32) (p2 : Int32)  (Q : Int32 → MM → Prop) (K5 : Int64 × Int32 × MM → Prop) (x : Int64 × Int32 × MM) : Prop :=
  ((4 ≤ x.2.1 → ((¬ (lg_cmp x.1 0) = 0 → Lp (G4_sumOfLikely_L69 p1 p2 x.1 Q) (0, 0, x.2.2)) ∧ ((lg_cmp x.1 0) = 0 → Q (-2) x.2.2))) ∧ (¬ (4 ≤ x.2.1) → vp_in p1 24 ∧ vp_in x.2.1 4 ∧ G4_likelihood p1 x.2.1 x.2.2 (fun r24 μ23 => vp_in x.2.1 4 ∧ Bd (sJ μ23 (173 + p1.toNatClampNeg) x.2.1.toNatClampNeg (((gI x.2.2 171 x.2.1.toNatClampNeg).toInt64) * r24)) fun μ26 => vp_in p1 24 ∧ vp_in x.2.1 4 ∧ Bd (x.1 + (gJ μ26 (173 + p1.toNatClampNeg) x.2.1.toNatClampNeg)) fun y29 => K5 (y29, (x.2.1 + 1), μ26))))
def G4_sumOfLikely (v1 : Int32) (v2 : Int32) (μ : MM) (Q : Int32 → MM → Prop) : Prop :=
  Lp (G4_sumOfLikely_L5 v1 v2 Q) (0, 0, μ)
def G4_howLikely_J25  (p1 : Int32) (p2 : Int32) (q0 : Int32) (μ : MM)  (Q : Int32 → MM → Prop) : Prop :=
  ((q0 = 0 → Q (-1) μ) ∧ (¬ (q0 = 0) → G4_sumOfLikely p1 (1 <<< (p2 &&& 31)) μ (fun r12 μ11 => Q r12 μ11)))
def G4_howLikely_J24  (p1 : Int32) (p2 : Int32) (μ : MM)  (Q : Int32 → MM → Prop) : Prop :=
  G4_howLikely_J25 p1 p2 0 μ Q
def G4_howLikely (v1 : Int32) (v2 : Int32) (μ : MM) (Q : Int32 → MM → Prop) : Prop :=
  G10_isHouse v1 μ (fun r8 μ7 => ((r8 = 0 → G4_howLikely_J24 v1 v2 μ7 Q) ∧ (¬ (r8 = 0) → G11_within v2 0 3 μ7 (fun r14 μ13 => ((r14 = 0 → G4_howLikely_J24 v1 v2 μ13 Q) ∧ (¬ (r14 = 0) → G4_howLikely_J25 v1 v2 1 μ13 Q))))))
def G11_likely (v1 : Int32) (v2 : Int32) (μ : MM) (Q : Int32 → MM → Prop) : Prop :=
  G4_howLikely v1 v2 μ (fun r4 μ3 => Q r4 μ3)
def G0_stretch_L5 (t : Nat) (p1 : Int32)  (Q : MM → Prop) (K5 : Int32 × MM → Prop) (x : Int32 × MM) : Prop :=
  ((p1 ≤ x.1 → Q x.2) ∧ (¬ (p1 ≤ x.1) → (((Int32.ofNat (ln (t + 1))) ≤ x.1 → Q x.2) ∧ (¬ ((Int32.ofNat (ln (t + 1))) ≤ x.1) → vp_in x.1 (ln (t + 1)) ∧ Bd (sJ x.2 (t + 1) x.1.toNatClampNeg 0) fun μ8 => Bd (sI μ8 t 1 (x.1 + 1)) fun μ9 => K5 ((x.1 + 1), μ9)))))
def G0_stretch (t : Nat) (v1 : Int32) (μ : MM) (Q : MM → Prop) : Prop :=
  Bd (gI μ t 1) fun y4 => Lp (G0_stretch_L5 t v1 Q) (y4, μ)
def G0_carry_L54 (t : Nat)   (Q : MM → Prop) (K54 : MM → Prop) (x : MM) : Prop :=
  (((gI x t 1) ≤ 0 → Q x) ∧ (¬ ((gI x t 1) ≤ 0) → vp_in ((gI x t 1) - 1) (ln (t + 1)) ∧ ((¬ (lg_cmp (gJ x (t + 1) (((gI x t 1) - 1).toNatClampNeg)) 0) = 0 → Q x) ∧ ((lg_cmp (gJ x (t + 1) (((gI x t 1) - 1).toNatClampNeg)) 0) = 0 → Bd (sI x t 1 ((gI x t 1) - 1)) fun μ14 => K54 μ14))))
def G0_carry_L14 (t : Nat)   (Q : MM → Prop) (K14 : Int64 × Int32 × MM → Prop) (x : Int64 × Int32 × MM) : Prop :=
  (((gI x.2.2 t 1) ≤ x.2.1 → Lp (G0_carry_L54 t Q) x.2.2) ∧ (¬ ((gI x.2.2 t 1) ≤ x.2.1) → vp_in x.2.1 (ln (t + 1)) ∧ Bd (x.1 + (gJ x.2.2 (t + 1) x.2.1.toNatClampNeg)) fun y16 => vp_in x.2.1 (ln (t + 1)) ∧ Bd (sJ x.2.2 (t + 1) x.2.1.toNatClampNeg (y16 - y16 / 100000000 * 100000000)) fun μ18 => Bd (y16 / 100000000) fun y19 => K14 (y19, (x.2.1 + 1), μ18)))
def G0_carry (t : Nat) (μ : MM) (Q : MM → Prop) : Prop :=
  G0_stretch t ((gI μ t 1) + 2) μ (fun μ9 => Lp (G0_carry_L14 t Q) (0, 0, μ9))
def G0_become (t : Nat) (v1 : Int32) (μ : MM) (Q : MM → Prop) : Prop :=
  Bd (sI μ t 1 1) fun μ5 => vp_in 0 (ln (t + 1)) ∧ Bd (sJ μ5 (t + 1) 0 (v1.toInt64)) fun μ7 => G0_carry t μ7 (fun μ8 => Q μ8)
def G0_isMoreThan_L35 (t : Nat) (a1 : Nat)   (Q : Int32 → MM → Prop) (K35 : Int32 × MM → Prop) (x : Int32 × MM) : Prop :=
  ((x.1 < 0 → Q 0 x.2) ∧ (¬ (x.1 < 0) → vp_in x.1 (ln (t + 1)) ∧ vp_in x.1 (ln (a1 + 1)) ∧ (((lg_cmp (gJ x.2 (t + 1) x.1.toNatClampNeg) (gJ x.2 (a1 + 1) x.1.toNatClampNeg)) = 0 → K35 ((x.1 + (-1)), x.2)) ∧ (¬ ((lg_cmp (gJ x.2 (t + 1) x.1.toNatClampNeg) (gJ x.2 (a1 + 1) x.1.toNatClampNeg)) = 0) → vp_in x.1 (ln (t + 1)) ∧ vp_in x.1 (ln (a1 + 1)) ∧ (((lg_cmp (gJ x.2 (t + 1) x.1.toNatClampNeg) (gJ x.2 (a1 + 1) x.1.toNatClampNeg)) ≤ 0 → Q 0 x.2) ∧ (¬ ((lg_cmp (gJ x.2 (t + 1) x.1.toNatClampNeg) (gJ x.2 (a1 + 1) x.1.toNatClampNeg)) ≤ 0) → Q 1 x.2))))))
def G0_isMoreThan (t : Nat) (a1 : Nat) (μ : MM) (Q : Int32 → MM → Prop) : Prop :=
  (((gI μ t 1) = (gI μ a1 1) → Bd ((gI μ t 1) - 1) fun y6 => Lp (G0_isMoreThan_L35 t a1 Q) (y6, μ)) ∧ (¬ ((gI μ t 1) = (gI μ a1 1)) → (((gI μ t 1) ≤ (gI μ a1 1) → Q 0 μ) ∧ (¬ ((gI μ t 1) ≤ (gI μ a1 1)) → Q 1 μ))))
def G0_times_L2 (t : Nat) (p1 : Int64)  (Q : MM → Prop) (K2 : Int32 × MM → Prop) (x : Int32 × MM) : Prop :=
  (((gI x.2 t 1) ≤ x.1 → G0_carry t x.2 (fun μ6 => Q μ6)) ∧ (¬ ((gI x.2 t 1) ≤ x.1) → vp_in x.1 (ln (t + 1)) ∧ vp_in x.1 (ln (t + 1)) ∧ Bd (sJ x.2 (t + 1) x.1.toNatClampNeg ((gJ x.2 (t + 1) x.1.toNatClampNeg) * p1)) fun μ9 => K2 ((x.1 + 1), μ9)))
def G0_times (t : Nat) (v1 : Int64) (μ : MM) (Q : MM → Prop) : Prop :=
  Lp (G0_times_L2 t v1 Q) (0, μ)
def G4_tenths (v0 : Int32) (v1 : Int32) (μ : MM) (Q : Int32 → MM → Prop) : Prop :=
  Bd (v0 / 121) fun y5 => Bd ((v0 / 11) - (v0 / 11) / 11 * 11) fun y6 => Bd (v0 - v0 / 11 * 11) fun y7 => ((v1 = 0 → Q y5 μ) ∧ (v1 = 1 → Q y6 μ) ∧ (v1 = 2 → Q y7 μ) ∧ (¬ v1 = 0 → ¬ v1 = 1 → ¬ v1 = 2 → Q (((10 - y5) - y6) - y7) μ))
def G4_isLikelier_L21  (p1 : Int32) (p2 : Int32) (p3 : Int32) (K10 : Int32 × MM → Prop) (Q : Int32 → MM → Prop) (K21 : Int64 × Int32 × MM → Prop) (x : Int64 × Int32 × MM) : Prop :=
  ((4 ≤ x.2.1 → ((¬ (lg_cmp x.1 0) = 0 → Rl (gR x.2.2 168 8) fun r31 => Ob r31 0 ∧ G0_times r31 x.1 x.2.2 (fun μ32 => K10 ((p3 + 1), μ32))) ∧ ((lg_cmp x.1 0) = 0 → Q 0 x.2.2))) ∧ (¬ (4 ≤ x.2.1) → G4_tenths p1 x.2.1 x.2.2 (fun r34 μ33 => vp_in p3 24 ∧ vp_in x.2.1 4 ∧ Bd (x.1 + ((r34.toInt64) * (gJ μ33 (173 + p3.toNatClampNeg) x.2.1.toNatClampNeg))) fun y37 => K21 (y37, (x.2.1 + 1), μ33))))
def G4_isLikelier_L10  (p1 : Int32) (p2 : Int32)  (Q : Int32 → MM → Prop) (K10 : Int32 × MM → Prop) (x : Int32 × MM) : Prop :=
  ((p2 ≤ x.1 → Rl (gR x.2 168 8) fun r20 => Ob r20 0 ∧ Rl (gR x.2 168 7) fun r21 => Ob r21 0 ∧ G0_isMoreThan r20 r21 x.2 (fun r23 μ22 => ((¬ r23 = 0 → Rl (gR μ22 168 7) fun r25 => Ob r25 0 ∧ Rl (gR μ22 168 8) fun r26 => Ob r26 0 ∧ Bd (sR μ22 168 7 (some r26)) fun μ27 => Bd (sR μ27 168 8 (some r25)) fun μ28 => Q 1 μ28) ∧ (r23 = 0 → Q 0 μ22)))) ∧ (¬ (p2 ≤ x.1) → Lp (G4_isLikelier_L21 p1 p2 x.1 K10 Q) (0, 0, x.2)))
def G4_isLikelier (v1 : Int32) (v2 : Int32) (μ : MM) (Q : Int32 → MM → Prop) : Prop :=
  Rl (gR μ 168 8) fun r17 => Ob r17 0 ∧ G0_become r17 1 μ (fun μ18 => Lp (G4_isLikelier_L10 v1 v2 Q) (0, μ18))
def G4_tellFit_L137  (p1 : Int32) (p2 : Int32)  (Q : Int32 → MM → Prop) (K137 : Int32 × MM → Prop) (x : Int32 × MM) : Prop :=
  ((4 ≤ x.1 → Q p1 x.2) ∧ (¬ (4 ≤ x.1) → G4_tenths p2 x.1 x.2 (fun r28 μ27 => G7_add (r28.toInt64) μ27 (fun μ29 => K137 ((x.1 + 1), μ29)))))
def G4_tellFit_L74  (p1 : Int32)  (Q : Int32 → MM → Prop) (K74 : Int32 × Int32 × MM → Prop) (x : Int32 × Int32 × MM) : Prop :=
  ((1331 ≤ x.2.1 → ((¬ x.1 = (-1) → G7_clear x.2.2 (fun μ25 => Lp (G4_tellFit_L137 p1 x.1 Q) (0, μ25))) ∧ (x.1 = (-1) → Q (-2) x.2.2))) ∧ (¬ (1331 ≤ x.2.1) → ((10 < (((x.2.1 / 121) + ((x.2.1 / 11) - (x.2.1 / 11) / 11 * 11)) + (x.2.1 - x.2.1 / 11 * 11)) → K74 (x.1, (x.2.1 + 1), x.2.2)) ∧ (¬ (10 < (((x.2.1 / 121) + ((x.2.1 / 11) - (x.2.1 / 11) / 11 * 11)) + (x.2.1 - x.2.1 / 11 * 11))) → G4_isLikelier x.2.1 p1 x.2.2 (fun r32 μ31 => ((r32 = 0 → K74 (x.1, (x.2.1 + 1), μ31)) ∧ (¬ (r32 = 0) → K74 (x.2.1, (x.2.1 + 1), μ31))))))))
def G4_tellFit_L28  (p1 : Int32) (p2 : Int32) (K4 : Int32 × Int32 × MM → Prop) (Q : Int32 → MM → Prop) (K28 : Int32 × MM → Prop) (x : Int32 × MM) : Prop :=
  ((4 ≤ x.1 → K4 ((p1 + 1), (p2 + 1), x.2)) ∧ (¬ (4 ≤ x.1) → vp_in p1 24 ∧ G4_likelihood p2 x.1 x.2 (fun r40 μ39 => vp_in x.1 4 ∧ Bd (sJ μ39 (173 + p1.toNatClampNeg) x.1.toNatClampNeg r40) fun μ42 => K28 ((x.1 + 1), μ42))))
def G4_tellFit_L4    (Q : Int32 → MM → Prop) (K4 : Int32 × Int32 × MM → Prop) (x : Int32 × Int32 × MM) : Prop :=
  (((gI x.2.2 1 8) ≤ x.2.1 → Rl (gR x.2.2 168 7) fun r21 => Ob r21 0 ∧ G0_become r21 0 x.2.2 (fun μ22 => Lp (G4_tellFit_L74 x.1 Q) ((-1), 0, μ22))) ∧ (¬ ((gI x.2.2 1 8) ≤ x.2.1) → G10_hasRead x.2.1 x.2.2 (fun r35 μ34 => ((r35 = 0 → K4 (x.1, (x.2.1 + 1), μ34)) ∧ (¬ (r35 = 0) → Lp (G4_tellFit_L28 x.1 x.2.1 K4 Q) (0, μ34))))))
def G4_tellFit  (μ : MM) (Q : Int32 → MM → Prop) : Prop :=
  Lp (G4_tellFit_L4 Q) (0, 0, μ)
def G11_fit  (μ : MM) (Q : Int32 → MM → Prop) : Prop :=
  G4_tellFit μ (fun r4 μ3 => Q r4 μ3)
def G4_fillSums_L2  (p1 : Int32)  (Q : MM → Prop) (K2 : Int32 × MM → Prop) (x : Int32 × MM) : Prop :=
  (((gI x.2 1 8) ≤ x.1 → Q x.2) ∧ (¬ ((gI x.2 1 8) ≤ x.1) → G10_hasRead x.1 x.2 (fun r9 μ8 => ((r9 = 0 → vp_in x.1 24 ∧ Bd (sI μ8 197 x.1.toNatClampNeg (-1)) fun μ12 => K2 ((x.1 + 1), μ12)) ∧ (¬ (r9 = 0) → G4_sumOfLikely x.1 p1 μ8 (fun r14 μ13 => vp_in x.1 24 ∧ Bd (sI μ13 197 x.1.toNatClampNeg r14) fun μ16 => K2 ((x.1 + 1), μ16)))))))
def G4_fillSums (v1 : Int32) (μ : MM) (Q : MM → Prop) : Prop :=
  Lp (G4_fillSums_L2 v1 Q) (0, μ)
def G4_isNamed_J23   (μ : MM)  (Q : Int32 → MM → Prop) : Prop :=
  Q 0 μ
def G4_isNamed (v1 : Int32) (v2 : Int32) (μ : MM) (Q : Int32 → MM → Prop) : Prop :=
  vp_in v1 24 ∧ (((gI μ 197 v1.toNatClampNeg) < 0 → G4_isNamed_J23 μ Q) ∧ (¬ ((gI μ 197 v1.toNatClampNeg) < 0) → vp_in v1 24 ∧ (((gI μ 197 v1.toNatClampNeg) < v2 → G4_isNamed_J23 μ Q) ∧ (¬ ((gI μ 197 v1.toNatClampNeg) < v2) → Q 1 μ))))
def G4_wronglyNamed_L5  (p1 : Int32)  (Q : Int64 → MM → Prop) (K5 : Int64 × Int32 × MM → Prop) (x : Int64 × Int32 × MM) : Prop :=
  (((gI x.2.2 1 8) ≤ x.2.1 → Q x.1 x.2.2) ∧ (¬ ((gI x.2.2 1 8) ≤ x.2.1) → G4_isNamed x.2.1 p1 x.2.2 (fun r6 μ5 => ((r6 = 0 → Bd (x.1 + 0) fun y8 => K5 (y8, (x.2.1 + 1), μ5)) ∧ (¬ (r6 = 0) → vp_in x.2.1 24 ∧ Bd (x.1 + ((1000000 - (gI μ5 197 x.2.1.toNatClampNeg)).toInt64)) fun y10 => K5 (y10, (x.2.1 + 1), μ5))))))
def G4_wronglyNamed (v1 : Int32) (μ : MM) (Q : Int64 → MM → Prop) : Prop :=
  Lp (G4_wronglyNamed_L5 v1 Q) (0, 0, μ)
def G4_tellNamed_L38  (p2 : Int32)  (Q : Int32 → MM → Prop) (K38 : Int32 × Int32 × Int64 × Int32 × MM → Prop) (x : Int32 × Int32 × Int64 × Int32 × MM) : Prop :=
  (((gI x.2.2.2.2 1 8) ≤ x.2.2.2.1 → G7_clear x.2.2.2.2 (fun μ24 => G7_add (x.2.1.toInt64) μ24 (fun μ25 => G4_wronglyNamed p2 μ25 (fun r27 μ26 => G7_add r27 μ26 (fun μ28 => G7_add x.2.2.1 μ28 (fun μ29 => Q x.1 μ29)))))) ∧ (¬ ((gI x.2.2.2.2 1 8) ≤ x.2.2.2.1) → G4_isNamed x.2.2.2.1 p2 x.2.2.2.2 (fun r31 μ30 => ((r31 = 0 → vp_in x.2.2.2.1 24 ∧ (((gI μ30 197 x.2.2.2.1.toNatClampNeg) < 0 → K38 (x.1, x.2.1, x.2.2.1, (x.2.2.2.1 + 1), μ30)) ∧ (¬ ((gI μ30 197 x.2.2.2.1.toNatClampNeg) < 0) → vp_in x.2.2.2.1 24 ∧ Bd (x.2.2.1 + ((gI μ30 197 x.2.2.2.1.toNatClampNeg).toInt64)) fun y36 => K38 (x.1, x.2.1, y36, (x.2.2.2.1 + 1), μ30)))) ∧ (¬ (r31 = 0) → Bd (x.2.1 ||| (1 <<< (x.2.2.2.1 &&& 31))) fun y37 => K38 ((x.1 + 1), y37, x.2.2.1, (x.2.2.2.1 + 1), μ30))))))
def G4_tellNamed (v1 : Int32) (v2 : Int32) (μ : MM) (Q : Int32 → MM → Prop) : Prop :=
  G11_within v1 1 15 μ (fun r17 μ16 => ((r17 = 0 → Q (-1) μ16) ∧ (¬ (r17 = 0) → G11_within v2 0 1000000 μ16 (fun r20 μ19 => ((¬ r20 = 0 → G4_fillSums v1 μ19 (fun μ22 => Lp (G4_tellNamed_L38 v2 Q) (0, 0, 0, 0, μ22))) ∧ (r20 = 0 → Q (-1) μ19))))))
def G11_named (v1 : Int32) (v2 : Int32) (μ : MM) (Q : Int32 → MM → Prop) : Prop :=
  G4_tellNamed v1 v2 μ (fun r4 μ3 => Q r4 μ3)
def G4_leastLine_L29  (p2 : Int32)  (Q : Int32 → MM → Prop) (K29 : Int32 × MM → Prop) (x : Int32 × MM) : Prop :=
  ((1000000 < x.1 → Q (-2) x.2) ∧ (¬ (1000000 < x.1) → G4_wronglyNamed x.1 x.2 (fun r17 μ16 => ((0 < (lg_cmp r17 (p2.toInt64)) → K29 ((x.1 + 1000), μ16)) ∧ (¬ (0 < (lg_cmp r17 (p2.toInt64))) → Q x.1 μ16)))))
def G4_leastLine (v1 : Int32) (v2 : Int32) (μ : MM) (Q : Int32 → MM → Prop) : Prop :=
  G11_within v1 1 15 μ (fun r9 μ8 => ((r9 = 0 → Q (-1) μ8) ∧ (¬ (r9 = 0) → G11_within v2 0 24000000 μ8 (fun r12 μ11 => ((¬ r12 = 0 → G4_fillSums v1 μ11 (fun μ14 => Lp (G4_leastLine_L29 v2 Q) (0, μ14))) ∧ (r12 = 0 → Q (-1) μ11))))))
def G11_sure (v1 : Int32) (v2 : Int32) (μ : MM) (Q : Int32 → MM → Prop) : Prop :=
  G4_leastLine v1 v2 μ (fun r4 μ3 => Q r4 μ3)
def G4_fewerIn (v1 : Int32) (μ : MM) (Q : Int32 → MM → Prop) : Prop :=
  G4_rungIn v1 0 μ (fun r6 μ5 => G4_rungIn v1 1 μ5 (fun r8 μ7 => Bd (r6 - r8) fun y9 => ((y9 ≤ 0 → Q 0 μ7) ∧ (¬ (y9 ≤ 0) → Q y9 μ7))))
def G4_tellMost_L72  (p1 : Int32) (p2 : Int32) (p5 : Int32) (K64 : Int32 × Int32 × Int32 × MM → Prop) (Q : Int32 → MM → Prop) (K72 : Int32 × Int32 × Int32 × MM → Prop) (x : Int32 × Int32 × Int32 × MM) : Prop :=
  (((gI x.2.2.2 1 8) ≤ x.2.2.1 → K64 (x.1, x.2.1, (p5 + (-1)), x.2.2.2)) ∧ (¬ ((gI x.2.2.2 1 8) ≤ x.2.2.1) → (((x.2.1 * 2) ≤ p2 → K64 (x.1, x.2.1, (p5 + (-1)), x.2.2.2)) ∧ (¬ ((x.2.1 * 2) ≤ p2) → vp_in x.2.2.1 24 ∧ ((¬ (gI x.2.2.2 197 x.2.2.1.toNatClampNeg) = p5 → K72 (x.1, x.2.1, (x.2.2.1 + 1), x.2.2.2)) ∧ ((gI x.2.2.2 197 x.2.2.1.toNatClampNeg) = p5 → Bd (x.2.1 - p5) fun y18 => K72 ((x.1 + 1), y18, (x.2.2.1 + 1), x.2.2.2)))))))
def G4_tellMost_L64  (p1 : Int32) (p2 : Int32)  (Q : Int32 → MM → Prop) (K64 : Int32 × Int32 × Int32 × MM → Prop) (x : Int32 × Int32 × Int32 × MM) : Prop :=
  ((x.2.2.1 ≤ 0 → G7_clear x.2.2.2 (fun μ11 => G7_add (p1.toInt64) μ11 (fun μ12 => G7_add (p2.toInt64) μ12 (fun μ13 => Q x.1 μ13)))) ∧ (¬ (x.2.2.1 ≤ 0) → Lp (G4_tellMost_L72 p1 p2 x.2.2.1 K64 Q) (x.1, x.2.1, 0, x.2.2.2)))
def G4_tellMost_L6    (Q : Int32 → MM → Prop) (K6 : Int32 × Int32 × Int32 × MM → Prop) (x : Int32 × Int32 × Int32 × MM) : Prop :=
  (((gI x.2.2.2 1 8) ≤ x.2.2.1 → Lp (G4_tellMost_L64 x.1 x.2.1 Q) (0, x.2.1, 4, x.2.2.2)) ∧ (¬ ((gI x.2.2.2 1 8) ≤ x.2.2.1) → G4_fewerIn x.2.2.1 x.2.2.2 (fun r20 μ19 => vp_in x.2.2.1 24 ∧ Bd (sI μ19 197 x.2.2.1.toNatClampNeg r20) fun μ22 => Bd (x.2.1 + r20) fun y23 => ((r20 ≤ 0 → Bd (x.1 + 0) fun y25 => K6 (y25, y23, (x.2.2.1 + 1), μ22)) ∧ (¬ (r20 ≤ 0) → Bd (x.1 + 1) fun y26 => K6 (y26, y23, (x.2.2.1 + 1), μ22))))))
def G4_tellMost  (μ : MM) (Q : Int32 → MM → Prop) : Prop :=
  Lp (G4_tellMost_L6 Q) (0, 0, 0, μ)
def G11_most  (μ : MM) (Q : Int32 → MM → Prop) : Prop :=
  G4_tellMost μ (fun r4 μ3 => Q r4 μ3)
def G2_gatherWorth_L7 (a1 : Nat) (p2 : Int32) (p3 : Int32)  (Q : MM → Prop) (K7 : Int32 × MM → Prop) (x : Int32 × MM) : Prop :=
  (((gI x.2 1 10) ≤ x.1 → Q x.2) ∧ (¬ ((gI x.2 1 10) ≤ x.1) → vp_in x.1 96 ∧ (((gI x.2 (19 + x.1.toNatClampNeg) 6) = 0 → K7 ((x.1 + 1), x.2)) ∧ (¬ ((gI x.2 (19 + x.1.toNatClampNeg) 6) = 0) → G11_within (gI x.2 (19 + x.1.toNatClampNeg) 2) p2 p3 x.2 (fun r13 μ12 => ((r13 = 0 → K7 ((x.1 + 1), μ12)) ∧ (¬ (r13 = 0) → G10_peopleOf (19 + x.1.toNatClampNeg) μ12 (fun r16 μ15 => G9_note a1 r16 (gI μ15 (19 + x.1.toNatClampNeg) 7) μ15 (fun μ17 => K7 ((x.1 + 1), μ17))))))))))
def G2_gatherWorth (a1 : Nat) (v2 : Int32) (v3 : Int32) (μ : MM) (Q : MM → Prop) : Prop :=
  G9_clear a1 μ (fun μ8 => Lp (G2_gatherWorth_L7 a1 v2 v3 Q) (0, μ8))
def G2_tellBoth_L70  (p2 : Nat) (p3 : Nat)  (Q : Int32 → MM → Prop) (K70 : Int32 × MM → Prop) (x : Int32 × MM) : Prop :=
  ((2 ≤ x.1 → G9_asideUpper p2 x.2 (fun r47 μ46 => G9_asideLower p3 μ46 (fun r49 μ48 => G9_asideUpper p3 μ48 (fun r51 μ50 => G9_asideLower p2 μ50 (fun r53 μ52 => Bd ((r47 * r49) - (r51 * r53)) fun y54 => G9_asideLower p2 μ52 (fun r56 μ55 => G9_asideLower p3 μ55 (fun r58 μ57 => G7_addFraction y54 (r56 * r58) μ57 (fun μ59 => (((lg_cmp y54 0) ≤ 0 → ((0 ≤ (lg_cmp y54 0) → Q 0 μ59) ∧ (¬ (0 ≤ (lg_cmp y54 0)) → Q 2 μ59))) ∧ (¬ ((lg_cmp y54 0) ≤ 0) → Q 1 μ59)))))))))) ∧ (¬ (2 ≤ x.1) → vp_in x.1 2 ∧ G7_add ((gI x.2 (p2 + 2) x.1.toNatClampNeg).toInt64) x.2 (fun μ63 => vp_in x.1 2 ∧ G7_add ((gI μ63 (p2 + 1) x.1.toNatClampNeg).toInt64) μ63 (fun μ65 => vp_in x.1 2 ∧ G7_add ((gI μ65 (p3 + 2) x.1.toNatClampNeg).toInt64) μ65 (fun μ67 => vp_in x.1 2 ∧ G7_add ((gI μ67 (p3 + 1) x.1.toNatClampNeg).toInt64) μ67 (fun μ69 => K70 ((x.1 + 1), μ69)))))))
def G2_tellBoth (v1 : Int32) (μ : MM) (Q : Int32 → MM → Prop) : Prop :=
  G11_within v1 1 99 μ (fun r34 μ33 => ((¬ r34 = 0 → G2_gatherWorth 207 v1 99 μ33 (fun μ36 => G2_gatherWorth 210 0 (v1 - 1) μ36 (fun μ37 => G9_hasBoth 207 μ37 (fun r39 μ38 => ((r39 = 0 → Q (-2) μ38) ∧ (¬ (r39 = 0) → G9_hasBoth 210 μ38 (fun r42 μ41 => ((¬ r42 = 0 → G7_clear μ41 (fun μ44 => Lp (G2_tellBoth_L70 207 210 Q) (0, μ44))) ∧ (r42 = 0 → Q (-2) μ41))))))))) ∧ (r34 = 0 → Q (-1) μ33)))
def G11_both (v1 : Int32) (μ : MM) (Q : Int32 → MM → Prop) : Prop :=
  G2_tellBoth v1 μ (fun r4 μ3 => Q r4 μ3)
def G2_valueOf (a1 : Nat) (v2 : Int32) (μ : MM) (Q : Int32 → MM → Prop) : Prop :=
  ((v2 = 0 → Q (gI μ a1 4) μ) ∧ (v2 = 1 → vp_in (gI μ a1 0) 24 ∧ Q (gI μ 6 ((gI μ a1 0).toNatClampNeg)) μ) ∧ (v2 = 2 → vp_in (gI μ a1 0) 24 ∧ Q (gI μ 7 ((gI μ a1 0).toNatClampNeg)) μ) ∧ (¬ v2 = 0 → ¬ v2 = 1 → ¬ v2 = 2 → Q (gI μ a1 3) μ))
def G2_gatherBy_L32  (p1 : Int32)  (Q : MM → Prop) (K32 : Int32 × MM → Prop) (x : Int32 × MM) : Prop :=
  (((gI x.2 1 10) ≤ x.1 → Q x.2) ∧ (¬ ((gI x.2 1 10) ≤ x.1) → vp_in x.1 96 ∧ (((gI x.2 (19 + x.1.toNatClampNeg) 6) = 0 → K32 ((x.1 + 1), x.2)) ∧ (¬ ((gI x.2 (19 + x.1.toNatClampNeg) 6) = 0) → G10_peopleOf (19 + x.1.toNatClampNeg) x.2 (fun r20 μ19 => G9_note 203 r20 (gI μ19 (19 + x.1.toNatClampNeg) 7) μ19 (fun μ21 => G2_valueOf (19 + x.1.toNatClampNeg) p1 μ21 (fun r23 μ22 => vp_in r23 10 ∧ G10_peopleOf (19 + x.1.toNatClampNeg) μ22 (fun r26 μ25 => G9_note (207 + 3 * r23.toNatClampNeg) r26 (gI μ25 (19 + x.1.toNatClampNeg) 7) μ25 (fun μ27 => K32 ((x.1 + 1), μ27))))))))))
def G2_gatherBy_L9  (p1 : Int32)  (Q : MM → Prop) (K9 : Int32 × MM → Prop) (x : Int32 × MM) : Prop :=
  ((10 ≤ x.1 → Lp (G2_gatherBy_L32 p1 Q) (0, x.2)) ∧ (¬ (10 ≤ x.1) → vp_in x.1 10 ∧ G9_clear (207 + 3 * x.1.toNatClampNeg) x.2 (fun μ29 => K9 ((x.1 + 1), μ29))))
def G2_gatherBy (v1 : Int32) (μ : MM) (Q : MM → Prop) : Prop :=
  G9_clear 203 μ (fun μ14 => Lp (G2_gatherBy_L9 v1 Q) (0, μ14))
def G9_asideTimes (t : Nat) (v1 : Int64) (μ : MM) (Q : Int64 → MM → Prop) : Prop :=
  G9_hasBoth t μ (fun r10 μ9 => ((r10 = 0 → Q 0 μ9) ∧ (¬ (r10 = 0) → ¬ ((gI μ9 (t + 1) 0).toInt64) = 0 ∧ ¬ ((gI μ9 (t + 1) 1).toInt64) = 0 ∧ Q ((((gI μ9 (t + 2) 0).toInt64) * (v1 / ((gI μ9 (t + 1) 0).toInt64))) - (((gI μ9 (t + 2) 1).toInt64) * (v1 / ((gI μ9 (t + 1) 1).toInt64)))) μ9)))
def G2_tellExplained_L115  (p2 : Int64) (p4 : Int32)  (Q : Int32 → MM → Prop) (K115 : Int64 × Int32 × MM → Prop) (x : Int64 × Int32 × MM) : Prop :=
  ((10 ≤ x.2.1 → Bd (p2 * (p4.toInt64)) fun y40 => G7_clear x.2.2 (fun μ41 => G7_addFraction x.1 y40 μ41 (fun μ42 => G9_asideUpper 203 μ42 (fun r44 μ43 => G9_asideLower 203 μ43 (fun r46 μ45 => G9_asideLower 203 μ45 (fun r48 μ47 => G7_addFraction ((r44 * y40) - (x.1 * r46)) (r48 * y40) μ47 (fun μ49 => Q 0 μ49))))))) ∧ (¬ (10 ≤ x.2.1) → vp_in x.2.1 10 ∧ G9_asideTimes (207 + 3 * x.2.1.toNatClampNeg) p2 x.2.2 (fun r52 μ51 => vp_in x.2.1 10 ∧ G9_all (207 + 3 * x.2.1.toNatClampNeg) μ51 (fun r55 μ54 => Bd (x.1 + (r52 * (r55.toInt64))) fun y56 => K115 (y56, (x.2.1 + 1), μ54)))))
def G2_tellExplained_L24    (Q : Int32 → MM → Prop) (K24 : Int64 × Int32 × Int32 × MM → Prop) (x : Int64 × Int32 × Int32 × MM) : Prop :=
  ((10 ≤ x.2.2.1 → ((¬ x.2.1 = 0 → Lp (G2_tellExplained_L115 x.1 x.2.1 Q) (0, 0, x.2.2.2)) ∧ (x.2.1 = 0 → Q (-2) x.2.2.2))) ∧ (¬ (10 ≤ x.2.2.1) → vp_in x.2.2.1 10 ∧ G9_hasBoth (207 + 3 * x.2.2.1.toNatClampNeg) x.2.2.2 (fun r59 μ58 => ((r59 = 0 → K24 (x.1, x.2.1, (x.2.2.1 + 1), μ58)) ∧ (¬ (r59 = 0) → vp_in x.2.2.1 10 ∧ G11_leastMultiple x.1 ((gI μ58 ((207 + 3 * x.2.2.1.toNatClampNeg) + 1) 0).toInt64) μ58 (fun r63 μ62 => vp_in x.2.2.1 10 ∧ G11_leastMultiple r63 ((gI μ62 ((207 + 3 * x.2.2.1.toNatClampNeg) + 1) 1).toInt64) μ62 (fun r66 μ65 => vp_in x.2.2.1 10 ∧ G9_all (207 + 3 * x.2.2.1.toNatClampNeg) μ65 (fun r69 μ68 => Bd (x.2.1 + r69) fun y70 => K24 (r66, y70, (x.2.2.1 + 1), μ68)))))))))
def G2_tellExplained (v1 : Int32) (μ : MM) (Q : Int32 → MM → Prop) : Prop :=
  G11_within v1 0 3 μ (fun r34 μ33 => ((¬ r34 = 0 → G2_gatherBy v1 μ33 (fun μ36 => Lp (G2_tellExplained_L24 Q) (1, 0, 0, μ36))) ∧ (r34 = 0 → Q (-1) μ33)))
def G11_explains (v1 : Int32) (μ : MM) (Q : Int32 → MM → Prop) : Prop :=
  G2_tellExplained v1 μ (fun r4 μ3 => Q r4 μ3)
def G2_tellJoined_J125  (p2 : Int64) (p4 : Int64) (p6 : Int64) (p8 : Int32) (p9 : Nat) (q0 : Int64) (μ : MM) (K89 : Int64 × Int64 × Int32 × MM → Prop) (Q : Int32 → MM → Prop) : Prop :=
  Bd (p4 + ((q0 * ((gI μ (p9 + 2) 0).toInt64)) * (((gI μ (p9 + 1) 1) - (gI μ (p9 + 2) 1)).toInt64))) fun y38 => Bd (p6 + ((q0 * (((gI μ (p9 + 1) 0) - (gI μ (p9 + 2) 0)).toInt64)) * ((gI μ (p9 + 2) 1).toInt64))) fun y39 => K89 (y38, y39, (p8 + 1), μ)
def G2_tellJoined_L89  (p2 : Int64)  (Q : Int32 → MM → Prop) (K89 : Int64 × Int64 × Int32 × MM → Prop) (x : Int64 × Int64 × Int32 × MM) : Prop :=
  ((10 ≤ x.2.2.1 → ((¬ (lg_cmp x.2.1 0) = 0 → G7_clear x.2.2.2 (fun μ32 => G7_addFraction x.1 x.2.1 μ32 (fun μ33 => Q 0 μ33))) ∧ ((lg_cmp x.2.1 0) = 0 → Q (-2) x.2.2.2))) ∧ (¬ (10 ≤ x.2.2.1) → vp_in x.2.2.1 10 ∧ G9_all (207 + 3 * x.2.2.1.toNatClampNeg) x.2.2.2 (fun r36 μ35 => ((r36 ≤ 0 → G2_tellJoined_J125 p2 x.1 x.2.1 x.2.2.1 (207 + 3 * x.2.2.1.toNatClampNeg) 0 μ35 K89 Q) ∧ (¬ (r36 ≤ 0) → G9_all (207 + 3 * x.2.2.1.toNatClampNeg) μ35 (fun r41 μ40 => ¬ (r41.toInt64) = 0 ∧ G2_tellJoined_J125 p2 x.1 x.2.1 x.2.2.1 (207 + 3 * x.2.2.1.toNatClampNeg) (p2 / (r41.toInt64)) μ40 K89 Q))))))
def G2_tellJoined_L38    (Q : Int32 → MM → Prop) (K38 : Int64 × Int32 × MM → Prop) (x : Int64 × Int32 × MM) : Prop :=
  ((10 ≤ x.2.1 → Lp (G2_tellJoined_L89 x.1 Q) (0, 0, 0, x.2.2)) ∧ (¬ (10 ≤ x.2.1) → vp_in x.2.1 10 ∧ G9_all (207 + 3 * x.2.1.toNatClampNeg) x.2.2 (fun r45 μ44 => ((r45 ≤ 0 → K38 (x.1, (x.2.1 + 1), μ44)) ∧ (¬ (r45 ≤ 0) → G11_leastMultiple x.1 (r45.toInt64) μ44 (fun r48 μ47 => K38 (r48, (x.2.1 + 1), μ47)))))))
def G2_tellJoined_J30  (q0 : Int32) (μ : MM)  (Q : Int32 → MM → Prop) : Prop :=
  G2_gatherBy q0 μ (fun μ28 => Lp (G2_tellJoined_L38 Q) (1, 0, μ28))
def G2_tellJoined (v1 : Int32) (μ : MM) (Q : Int32 → MM → Prop) : Prop :=
  G11_within v1 0 2 μ (fun r24 μ23 => ((¬ r24 = 0 → ((¬ v1 = 0 → ((¬ v1 = 1 → G2_tellJoined_J30 0 μ23 Q) ∧ (v1 = 1 → G2_tellJoined_J30 2 μ23 Q))) ∧ (v1 = 0 → G2_tellJoined_J30 1 μ23 Q))) ∧ (r24 = 0 → Q (-1) μ23)))
def G11_join (v1 : Int32) (μ : MM) (Q : Int32 → MM → Prop) : Prop :=
  G2_tellJoined v1 μ (fun r4 μ3 => Q r4 μ3)
def G2_tellBounds_J117  (p1 : Int32) (p2 : Int32) (p3 : Int32) (p5 : Int32) (q0 : Int32) (q1 : Int32) (μ : MM) (K21 : Int32 × Int32 × Int32 × Int32 × MM → Prop) (Q : Int32 → MM → Prop) : Prop :=
  Bd (q1 + q0) fun y25 => K21 (p2, p3, y25, (p5 + 1), μ)
def G2_tellBounds_J116  (p1 : Int32) (p2 : Int32) (p3 : Int32) (p5 : Int32) (q0 : Int32) (μ : MM) (K21 : Int32 × Int32 × Int32 × Int32 × MM → Prop) (Q : Int32 → MM → Prop) : Prop :=
  G2_tellBounds_J117 p1 p2 p3 p5 0 q0 μ K21 Q
def G2_tellBounds_J92  (p1 : Int32) (p2 : Int32) (p4 : Int32) (p5 : Int32) (p6 : Nat) (q0 : Int32) (q1 : Int32) (μ : MM) (K21 : Int32 × Int32 × Int32 × Int32 × MM → Prop) (Q : Int32 → MM → Prop) : Prop :=
  Bd (q1 + q0) fun y23 => (((gI μ p6 7) = 0 → G2_tellBounds_J116 p1 p2 y23 p5 p4 μ K21 Q) ∧ (¬ ((gI μ p6 7) = 0) → ((¬ (gI μ p6 8) = 0 → G2_tellBounds_J116 p1 p2 y23 p5 p4 μ K21 Q) ∧ ((gI μ p6 8) = 0 → G2_tellBounds_J117 p1 p2 y23 p5 1 p4 μ K21 Q))))
def G2_tellBounds_J91  (p1 : Int32) (p2 : Int32) (p4 : Int32) (p5 : Int32) (p6 : Nat) (q0 : Int32) (μ : MM) (K21 : Int32 × Int32 × Int32 × Int32 × MM → Prop) (Q : Int32 → MM → Prop) : Prop :=
  G2_tellBounds_J92 p1 p2 p4 p5 p6 0 q0 μ K21 Q
def G2_tellBounds_L21  (p1 : Int32)  (Q : Int32 → MM → Prop) (K21 : Int32 × Int32 × Int32 × Int32 × MM → Prop) (x : Int32 × Int32 × Int32 × Int32 × MM) : Prop :=
  (((gI x.2.2.2.2 1 10) ≤ x.2.2.2.1 → ((¬ x.1 = 0 → G7_clear x.2.2.2.2 (fun μ14 => G7_addFraction (x.2.1.toInt64) (x.1.toInt64) μ14 (fun μ15 => G7_addFraction ((x.2.1 + x.2.2.1).toInt64) (x.1.toInt64) μ15 (fun μ16 => Q x.2.2.1 μ16)))) ∧ (x.1 = 0 → Q (-2) x.2.2.2.2))) ∧ (¬ ((gI x.2.2.2.2 1 10) ≤ x.2.2.2.1) → vp_in x.2.2.2.1 96 ∧ (((gI x.2.2.2.2 (19 + x.2.2.2.1.toNatClampNeg) 6) = 0 → K21 (x.1, x.2.1, x.2.2.1, (x.2.2.2.1 + 1), x.2.2.2.2)) ∧ (¬ ((gI x.2.2.2.2 (19 + x.2.2.2.1.toNatClampNeg) 6) = 0) → G10_peopleOf (19 + x.2.2.2.1.toNatClampNeg) x.2.2.2.2 (fun r20 μ19 => ((¬ r20 = p1 → K21 (x.1, x.2.1, x.2.2.1, (x.2.2.2.1 + 1), μ19)) ∧ (r20 = p1 → (((gI μ19 (19 + x.2.2.2.1.toNatClampNeg) 7) = 0 → G2_tellBounds_J91 p1 (x.1 + 1) x.2.2.1 x.2.2.2.1 (19 + x.2.2.2.1.toNatClampNeg) x.2.1 μ19 K21 Q) ∧ (¬ ((gI μ19 (19 + x.2.2.2.1.toNatClampNeg) 7) = 0) → ((¬ (gI μ19 (19 + x.2.2.2.1.toNatClampNeg) 8) = 1 → G2_tellBounds_J91 p1 (x.1 + 1) x.2.2.1 x.2.2.2.1 (19 + x.2.2.2.1.toNatClampNeg) x.2.1 μ19 K21 Q) ∧ ((gI μ19 (19 + x.2.2.2.1.toNatClampNeg) 8) = 1 → G2_tellBounds_J92 p1 (x.1 + 1) x.2.2.1 x.2.2.2.1 (19 + x.2.2.2.1.toNatClampNeg) 1 x.2.1 μ19 K21 Q)))))))))))
def G2_tellBounds (v1 : Int32) (μ : MM) (Q : Int32 → MM → Prop) : Prop :=
  G11_within v1 0 1 μ (fun r10 μ9 => ((¬ r10 = 0 → Lp (G2_tellBounds_L21 v1 Q) (0, 0, 0, 0, μ9)) ∧ (r10 = 0 → Q (-1) μ9)))
def G11_bounds (v1 : Int32) (μ : MM) (Q : Int32 → MM → Prop) : Prop :=
  G2_tellBounds v1 μ (fun r4 μ3 => Q r4 μ3)
def G2_tellYears_L32  (p1 : Int32) (p2 : Nat)  (Q : Int32 → MM → Prop) (K32 : Int32 × MM → Prop) (x : Int32 × MM) : Prop :=
  ((99 < (p1 + x.1) → Q (-2) x.2) ∧ (¬ (99 < (p1 + x.1)) → (((gI x.2 204 0) ≤ 0 → Q (-2) x.2) ∧ (¬ ((gI x.2 204 0) ≤ 0) → G2_gatherWorth p2 (p1 + x.1) 99 x.2 (fun μ22 => (((gI μ22 (p2 + 1) 1) ≤ 0 → K32 ((x.1 + 1), μ22)) ∧ (¬ ((gI μ22 (p2 + 1) 1) ≤ 0) → ((((gI μ22 (p2 + 2) 1) * (gI μ22 204 0)) < ((gI μ22 205 0) * (gI μ22 (p2 + 1) 1)) → K32 ((x.1 + 1), μ22)) ∧ (¬ (((gI μ22 (p2 + 2) 1) * (gI μ22 204 0)) < ((gI μ22 205 0) * (gI μ22 (p2 + 1) 1))) → G7_clear μ22 (fun μ25 => G7_addFraction ((gI μ25 (p2 + 2) 1).toInt64) ((gI μ25 (p2 + 1) 1).toInt64) μ25 (fun μ26 => Q x.1 μ26)))))))))))
def G2_tellYears (v1 : Int32) (μ : MM) (Q : Int32 → MM → Prop) : Prop :=
  G11_within v1 0 99 μ (fun r17 μ16 => ((¬ r17 = 0 → G2_gatherWorth 203 v1 99 μ16 (fun μ19 => Lp (G2_tellYears_L32 v1 207 Q) (0, μ19))) ∧ (r17 = 0 → Q (-1) μ16)))
def G11_years (v1 : Int32) (μ : MM) (Q : Int32 → MM → Prop) : Prop :=
  G2_tellYears v1 μ (fun r4 μ3 => Q r4 μ3)
def G2_tellMornings_J178  (p1 : Int32) (p2 : Int32) (p3 : Int32) (p4 : Int32) (p7 : Int32) (p8 : Int32) (μ : MM) (K45 : Int32 × Int32 × Int32 × Int32 × MM → Prop) (Q : Int32 → MM → Prop) : Prop :=
  K45 (p4, p7, p8, (p7 + 1), μ)
def G2_tellMornings_J149  (p1 : Int32) (p2 : Int32) (p3 : Int32) (p4 : Int32) (p5 : Int32) (p6 : Int32) (p7 : Int32) (p9 : Int32) (q0 : Int32) (q1 : Int32) (μ : MM) (K45 : Int32 × Int32 × Int32 × Int32 × MM → Prop) (K63 : Int32 × Int32 × MM → Prop) (Q : Int32 → MM → Prop) : Prop :=
  Bd (q1 + q0) fun y34 => K63 (y34, (p9 + 1), μ)
def G2_tellMornings_J148  (p1 : Int32) (p2 : Int32) (p3 : Int32) (p4 : Int32) (p5 : Int32) (p6 : Int32) (p7 : Int32) (p9 : Int32) (q0 : Int32) (μ : MM) (K45 : Int32 × Int32 × Int32 × Int32 × MM → Prop) (K63 : Int32 × Int32 × MM → Prop) (Q : Int32 → MM → Prop) : Prop :=
  G2_tellMornings_J149 p1 p2 p3 p4 p5 p6 p7 p9 0 q0 μ K45 K63 Q
def G2_tellMornings_J121  (p1 : Int32) (p2 : Int32) (p3 : Int32) (p4 : Int32) (p5 : Int32) (p6 : Int32) (p7 : Int32) (p9 : Int32) (p10 : Nat) (q0 : Int32) (q1 : Int32) (q2 : Int32) (μ : MM) (K45 : Int32 × Int32 × Int32 × Int32 × MM → Prop) (K63 : Int32 × Int32 × MM → Prop) (Q : Int32 → MM → Prop) : Prop :=
  Bd (q2 + (q1 + q0)) fun y32 => (((gI μ p10 7) = 0 → G2_tellMornings_J148 p1 p2 p3 p4 p5 p6 p7 p9 y32 μ K45 K63 Q) ∧ (¬ ((gI μ p10 7) = 0) → ((¬ (gI μ p10 8) = 2 → G2_tellMornings_J148 p1 p2 p3 p4 p5 p6 p7 p9 y32 μ K45 K63 Q) ∧ ((gI μ p10 8) = 2 → G2_tellMornings_J149 p1 p2 p3 p4 p5 p6 p7 p9 p3 y32 μ K45 K63 Q))))
def G2_tellMornings_L63  (p1 : Int32) (p2 : Int32) (p3 : Int32) (p4 : Int32) (p5 : Int32) (p6 : Int32) (p7 : Int32) (K45 : Int32 × Int32 × Int32 × Int32 × MM → Prop) (Q : Int32 → MM → Prop) (K63 : Int32 × Int32 × MM → Prop) (x : Int32 × Int32 × MM) : Prop :=
  (((gI x.2.2 1 10) ≤ x.2.1 → Bd (p4 + x.1) fun y25 => ((p5 = (-1) → G2_tellMornings_J178 p1 p2 p3 y25 p7 x.1 x.2.2 K45 Q) ∧ (¬ (p5 = (-1)) → ((x.1 ≤ p6 → K45 (y25, p5, p6, (p7 + 1), x.2.2)) ∧ (¬ (x.1 ≤ p6) → G2_tellMornings_J178 p1 p2 p3 y25 p7 x.1 x.2.2 K45 Q))))) ∧ (¬ ((gI x.2.2 1 10) ≤ x.2.1) → vp_in x.2.1 96 ∧ ((¬ (gI x.2.2 (19 + x.2.1.toNatClampNeg) 0) = p7 → K63 (x.1, (x.2.1 + 1), x.2.2)) ∧ ((gI x.2.2 (19 + x.2.1.toNatClampNeg) 0) = p7 → (((gI x.2.2 (19 + x.2.1.toNatClampNeg) 6) = 0 → K63 (x.1, (x.2.1 + 1), x.2.2)) ∧ (¬ ((gI x.2.2 (19 + x.2.1.toNatClampNeg) 6) = 0) → (((gI x.2.2 (19 + x.2.1.toNatClampNeg) 7) = 0 → G2_tellMornings_J121 p1 p2 p3 p4 p5 p6 p7 x.2.1 (19 + x.2.1.toNatClampNeg) 0 p1 x.1 x.2.2 K45 K63 Q) ∧ (¬ ((gI x.2.2 (19 + x.2.1.toNatClampNeg) 7) = 0) → G2_tellMornings_J121 p1 p2 p3 p4 p5 p6 p7 x.2.1 (19 + x.2.1.toNatClampNeg) p2 p1 x.1 x.2.2 K45 K63 Q))))))))
def G2_tellMornings_L45  (p1 : Int32) (p2 : Int32) (p3 : Int32)  (Q : Int32 → MM → Prop) (K45 : Int32 × Int32 × Int32 × Int32 × MM → Prop) (x : Int32 × Int32 × Int32 × Int32 × MM) : Prop :=
  (((gI x.2.2.2.2 1 8) ≤ x.2.2.2.1 → G7_clear x.2.2.2.2 (fun μ21 => G7_add (x.2.1.toInt64) μ21 (fun μ22 => G7_add (x.2.2.1.toInt64) μ22 (fun μ23 => Q x.1 μ23)))) ∧ (¬ ((gI x.2.2.2.2 1 8) ≤ x.2.2.2.1) → Lp (G2_tellMornings_L63 p1 p2 p3 x.1 x.2.1 x.2.2.1 x.2.2.2.1 K45 Q) (0, 0, x.2.2.2.2)))
def G2_tellMornings (v1 : Int32) (v2 : Int32) (v3 : Int32) (μ : MM) (Q : Int32 → MM → Prop) : Prop :=
  G11_within v1 0 99 μ (fun r12 μ11 => ((r12 = 0 → Q (-1) μ11) ∧ (¬ (r12 = 0) → G11_within v2 0 99 μ11 (fun r15 μ14 => ((r15 = 0 → Q (-1) μ14) ∧ (¬ (r15 = 0) → G11_within v3 0 999 μ14 (fun r18 μ17 => ((¬ r18 = 0 → Lp (G2_tellMornings_L45 v1 v2 v3 Q) (0, (-1), 0, 0, μ17)) ∧ (r18 = 0 → Q (-1) μ17)))))))))
def G11_mornings (v1 : Int32) (v2 : Int32) (v3 : Int32) (μ : MM) (Q : Int32 → MM → Prop) : Prop :=
  G2_tellMornings v1 v2 v3 μ (fun r4 μ3 => Q r4 μ3)
def G6_noteAsking_J41  (p1 : Int32) (p2 : Int32) (p3 : Int32) (q0 : Int32) (μ : MM)  (Q : Int32 → MM → Prop) : Prop :=
  ((q0 = 0 → Q (-1) μ) ∧ (¬ (q0 = 0) → ((¬ (gI μ 237 5) = 40 → vp_in (gI μ 237 5) 40 ∧ Bd (sI μ 238 ((gI μ 237 5).toNatClampNeg) p1) fun μ20 => vp_in (gI μ20 237 5) 40 ∧ Bd (sI μ20 239 ((gI μ20 237 5).toNatClampNeg) p2) fun μ22 => vp_in (gI μ22 237 5) 40 ∧ Bd (sI μ22 240 ((gI μ22 237 5).toNatClampNeg) p3) fun μ24 => Bd (sI μ24 237 5 ((gI μ24 237 5) + 1)) fun μ25 => Q (gI μ25 237 5) μ25) ∧ ((gI μ 237 5) = 40 → Q (-1) μ))))
def G6_noteAsking_J40  (p1 : Int32) (p2 : Int32) (p3 : Int32) (μ : MM)  (Q : Int32 → MM → Prop) : Prop :=
  G6_noteAsking_J41 p1 p2 p3 0 μ Q
def G6_noteAsking (v1 : Int32) (v2 : Int32) (v3 : Int32) (μ : MM) (Q : Int32 → MM → Prop) : Prop :=
  G10_isLetter v1 μ (fun r15 μ14 => ((r15 = 0 → G6_noteAsking_J40 v1 v2 v3 μ14 Q) ∧ (¬ (r15 = 0) → G10_isLetter v2 μ14 (fun r27 μ26 => ((r27 = 0 → G6_noteAsking_J40 v1 v2 v3 μ26 Q) ∧ (¬ (r27 = 0) → ((v1 = v2 → G6_noteAsking_J40 v1 v2 v3 μ26 Q) ∧ (¬ (v1 = v2) → G11_within v3 0 2 μ26 (fun r31 μ30 => ((r31 = 0 → G6_noteAsking_J40 v1 v2 v3 μ30 Q) ∧ (¬ (r31 = 0) → G6_noteAsking_J41 v1 v2 v3 1 μ30 Q)))))))))))
def G11_asked (v1 : Int32) (v2 : Int32) (v3 : Int32) (μ : MM) (Q : Int32 → MM → Prop) : Prop :=
  G6_noteAsking v1 v2 v3 μ (fun r4 μ3 => Q r4 μ3)
def G6_goesAgainst (v1 : Int32) (v2 : Int32) (v3 : Int32) (v4 : Int32) (μ : MM) (Q : Int32 → MM → Prop) : Prop :=
  vp_in v1 6 ∧ vp_in v2 96 ∧ vp_in v1 6 ∧ vp_in v3 96 ∧ GJ6_compare_7cf53 (gI μ (242 + v1.toNatClampNeg) v2.toNatClampNeg) (gI μ (242 + v1.toNatClampNeg) v3.toNatClampNeg) μ (fun r12 μ11 => ((v4 = 1 → ((0 ≤ r12 → Q 0 μ11) ∧ (¬ (0 ≤ r12) → Q 1 μ11))) ∧ (v4 = 2 → ((r12 ≤ 0 → Q 0 μ11) ∧ (¬ (r12 ≤ 0) → Q 1 μ11))) ∧ (¬ v4 = 1 → ¬ v4 = 2 → ((r12 = 0 → Q 0 μ11) ∧ (¬ (r12 = 0) → Q 1 μ11)))))
def G6_weigh_L108  (p1 : Int32) (K93 : Int32 × MM → Prop) (Q : MM → Prop) (K108 : Int32 × MM → Prop) (x : Int32 × MM) : Prop :=
  (((gI x.2 237 5) ≤ x.1 → K93 ((p1 + 1), x.2)) ∧ (¬ ((gI x.2 237 5) ≤ x.1) → vp_in p1 6 ∧ vp_in x.1 40 ∧ vp_in x.1 40 ∧ vp_in x.1 40 ∧ G6_goesAgainst p1 (gI x.2 238 x.1.toNatClampNeg) (gI x.2 239 x.1.toNatClampNeg) (gI x.2 240 x.1.toNatClampNeg) x.2 (fun r31 μ30 => ((r31 = 0 → vp_in p1 6 ∧ Bd (sI μ30 248 p1.toNatClampNeg ((gI x.2 248 p1.toNatClampNeg) + 0)) fun μ34 => K108 ((x.1 + 1), μ34)) ∧ (¬ (r31 = 0) → vp_in p1 6 ∧ Bd (sI μ30 248 p1.toNatClampNeg ((gI x.2 248 p1.toNatClampNeg) + 1)) fun μ36 => K108 ((x.1 + 1), μ36))))))
def G6_weigh_L93    (Q : MM → Prop) (K93 : Int32 × MM → Prop) (x : Int32 × MM) : Prop :=
  ((6 ≤ x.1 → Q x.2) ∧ (¬ (6 ≤ x.1) → vp_in x.1 6 ∧ Bd (sI x.2 248 x.1.toNatClampNeg 0) fun μ24 => Lp (G6_weigh_L108 x.1 K93 Q) (0, μ24)))
def G6_weigh_L31  (p1 : Int32) (K2 : Int32 × MM → Prop) (Q : MM → Prop) (K31 : Int32 × MM → Prop) (x : Int32 × MM) : Prop :=
  ((6 ≤ x.1 → K2 ((p1 + 1), x.2)) ∧ (¬ (6 ≤ x.1) → vp_in x.1 6 ∧ G10_isLaw x.1 x.2 (fun r42 μ41 => ((r42 = 0 → vp_in p1 96 ∧ Bd (sI μ41 (242 + x.1.toNatClampNeg) p1.toNatClampNeg 0) fun μ45 => K31 ((x.1 + 1), μ45)) ∧ (¬ (r42 = 0) → vp_in x.1 6 ∧ G3_result (115 + 6 * x.1.toNatClampNeg) 12 μ41 (fun r48 μ47 => vp_in p1 96 ∧ Bd (sI μ47 (242 + x.1.toNatClampNeg) p1.toNatClampNeg r48) fun μ50 => K31 ((x.1 + 1), μ50)))))))
def G6_weigh_L2    (Q : MM → Prop) (K2 : Int32 × MM → Prop) (x : Int32 × MM) : Prop :=
  (((gI x.2 1 10) ≤ x.1 → Lp (G6_weigh_L93 Q) (0, x.2)) ∧ (¬ ((gI x.2 1 10) ≤ x.1) → vp_in x.1 96 ∧ G10_lookAt (19 + x.1.toNatClampNeg) x.2 (fun μ38 => Lp (G6_weigh_L31 x.1 K2 Q) (0, μ38))))
def G6_weigh  (μ : MM) (Q : MM → Prop) : Prop :=
  Lp (G6_weigh_L2 Q) (0, μ)
def G6_weighedWithin_L4  (p1 : Int32)  (Q : Int32 → MM → Prop) (K4 : Int32 × Int32 × MM → Prop) (x : Int32 × Int32 × MM) : Prop :=
  ((6 ≤ x.2.1 → Q x.1 x.2.2) ∧ (¬ (6 ≤ x.2.1) → G10_isLaw x.2.1 x.2.2 (fun r6 μ5 => ((r6 = 0 → K4 (x.1, (x.2.1 + 1), μ5)) ∧ (¬ (r6 = 0) → vp_in x.2.1 6 ∧ ((p1 < (gI μ5 248 x.2.1.toNatClampNeg) → K4 (x.1, (x.2.1 + 1), μ5)) ∧ (¬ (p1 < (gI μ5 248 x.2.1.toNatClampNeg)) → Bd (x.1 ||| (1 <<< (x.2.1 &&& 31))) fun y10 => K4 (y10, (x.2.1 + 1), μ5))))))))
def G6_weighedWithin (v1 : Int32) (μ : MM) (Q : Int32 → MM → Prop) : Prop :=
  Lp (G6_weighedWithin_L4 v1 Q) (0, 0, μ)
def G6_tellPairs_J47  (p1 : Int32) (q0 : Int64) (μ : MM) (K13 : Int32 × MM → Prop) (Q : Int32 → MM → Prop) : Prop :=
  G7_add q0 μ (fun μ17 => K13 ((p1 + 1), μ17))
def G6_tellPairs_L13    (Q : Int32 → MM → Prop) (K13 : Int32 × MM → Prop) (x : Int32 × MM) : Prop :=
  ((6 ≤ x.1 → G6_weighedWithin 0 x.2 (fun r13 μ12 => Q r13 μ12)) ∧ (¬ (6 ≤ x.1) → G10_isLaw x.1 x.2 (fun r15 μ14 => ((r15 = 0 → G6_tellPairs_J47 x.1 (-1) μ14 K13 Q) ∧ (¬ (r15 = 0) → vp_in x.1 6 ∧ G6_tellPairs_J47 x.1 ((gI μ14 248 x.1.toNatClampNeg).toInt64) μ14 K13 Q)))))
def G6_tellPairs  (μ : MM) (Q : Int32 → MM → Prop) : Prop :=
  G6_weigh μ (fun μ9 => G7_clear μ9 (fun μ10 => Lp (G6_tellPairs_L13 Q) (0, μ10)))
def G11_pairs  (μ : MM) (Q : Int32 → MM → Prop) : Prop :=
  G6_tellPairs μ (fun r4 μ3 => Q r4 μ3)
def G6_mostLeft_J94  (p1 : Int32) (p2 : Int32) (p3 : Int32) (p4 : Int32) (p5 : Int32) (p7 : Int32) (q0 : Int32) (q1 : Int32) (μ : MM) (K12 : Int32 × Int32 × Int32 × Int32 × MM → Prop) (Q : Int32 → MM → Prop) : Prop :=
  Bd (q1 + q0) fun y20 => K12 (p4, p5, y20, (p7 + 1), μ)
def G6_mostLeft_J79  (p1 : Int32) (p2 : Int32) (p3 : Int32) (p4 : Int32) (p6 : Int32) (p7 : Int32) (p8 : Int32) (q0 : Int32) (q1 : Int32) (μ : MM) (K12 : Int32 × Int32 × Int32 × Int32 × MM → Prop) (Q : Int32 → MM → Prop) : Prop :=
  Bd (q1 + q0) fun y18 => ((0 ≤ p8 → G6_mostLeft_J94 p1 p2 p3 p4 y18 p7 0 p6 μ K12 Q) ∧ (¬ (0 ≤ p8) → G6_mostLeft_J94 p1 p2 p3 p4 y18 p7 1 p6 μ K12 Q))
def G6_mostLeft_J64  (p1 : Int32) (p2 : Int32) (p3 : Int32) (p5 : Int32) (p6 : Int32) (p7 : Int32) (p8 : Int32) (q0 : Int32) (q1 : Int32) (μ : MM) (K12 : Int32 × Int32 × Int32 × Int32 × MM → Prop) (Q : Int32 → MM → Prop) : Prop :=
  Bd (q1 + q0) fun y16 => ((p8 ≤ 0 → G6_mostLeft_J79 p1 p2 p3 y16 p6 p7 p8 0 p5 μ K12 Q) ∧ (¬ (p8 ≤ 0) → G6_mostLeft_J79 p1 p2 p3 y16 p6 p7 p8 1 p5 μ K12 Q))
def G6_mostLeft_L12  (p1 : Int32) (p2 : Int32) (p3 : Int32)  (Q : Int32 → MM → Prop) (K12 : Int32 × Int32 × Int32 × Int32 × MM → Prop) (x : Int32 × Int32 × Int32 × Int32 × MM) : Prop :=
  ((6 ≤ x.2.2.2.1 → Q (x.1 + (if x.2.1 < x.2.2.1 then x.2.2.1 else x.2.1)) x.2.2.2.2) ∧ (¬ (6 ≤ x.2.2.2.1) → ((¬ ((p1 >>> (x.2.2.2.1 &&& 31)) &&& 1) = 1 → K12 (x.1, x.2.1, x.2.2.1, (x.2.2.2.1 + 1), x.2.2.2.2)) ∧ (((p1 >>> (x.2.2.2.1 &&& 31)) &&& 1) = 1 → vp_in x.2.2.2.1 6 ∧ vp_in p2 96 ∧ vp_in x.2.2.2.1 6 ∧ vp_in p3 96 ∧ GJ6_compare_7cf53 (gI x.2.2.2.2 (242 + x.2.2.2.1.toNatClampNeg) p2.toNatClampNeg) (gI x.2.2.2.2 (242 + x.2.2.2.1.toNatClampNeg) p3.toNatClampNeg) x.2.2.2.2 (fun r14 μ13 => ((¬ r14 = 0 → G6_mostLeft_J64 p1 p2 p3 x.2.1 x.2.2.1 x.2.2.2.1 r14 0 x.1 μ13 K12 Q) ∧ (r14 = 0 → G6_mostLeft_J64 p1 p2 p3 x.2.1 x.2.2.1 x.2.2.2.1 r14 1 x.1 μ13 K12 Q)))))))
def G6_mostLeft (v1 : Int32) (v2 : Int32) (v3 : Int32) (μ : MM) (Q : Int32 → MM → Prop) : Prop :=
  Lp (G6_mostLeft_L12 v1 v2 v3 Q) (0, 0, 0, 0, μ)
def G6_tellNext_L61  (p1 : Int32) (p5 : Int32) (K43 : Int32 × Int32 × Int32 × Int32 × MM → Prop) (Q : Int32 → MM → Prop) (K61 : Int32 × Int32 × Int32 × Int32 × MM → Prop) (x : Int32 × Int32 × Int32 × Int32 × MM) : Prop :=
  (((gI x.2.2.2.2 1 10) ≤ x.2.2.2.1 → K43 (x.1, x.2.1, x.2.2.1, (p5 + 1), x.2.2.2.2)) ∧ (¬ ((gI x.2.2.2.2 1 10) ≤ x.2.2.2.1) → G6_mostLeft p1 p5 x.2.2.2.1 x.2.2.2.2 (fun r25 μ24 => ((x.1 ≤ r25 → K61 (x.1, x.2.1, x.2.2.1, (x.2.2.2.1 + 1), μ24)) ∧ (¬ (x.1 ≤ r25) → K61 (r25, p5, x.2.2.2.1, (x.2.2.2.1 + 1), μ24))))))
def G6_tellNext_L43  (p1 : Int32)  (Q : Int32 → MM → Prop) (K43 : Int32 × Int32 × Int32 × Int32 × MM → Prop) (x : Int32 × Int32 × Int32 × Int32 × MM) : Prop :=
  (((gI x.2.2.2.2 1 10) ≤ x.2.2.2.1 → G7_clear x.2.2.2.2 (fun μ19 => G7_add (x.2.1.toInt64) μ19 (fun μ20 => G7_add (x.2.2.1.toInt64) μ20 (fun μ21 => Q x.1 μ21)))) ∧ (¬ ((gI x.2.2.2.2 1 10) ≤ x.2.2.2.1) → Bd (x.2.2.2.1 + 1) fun y22 => Lp (G6_tellNext_L61 p1 x.2.2.2.1 K43 Q) (x.1, x.2.1, x.2.2.1, y22, x.2.2.2.2)))
def G6_tellNext  (μ : MM) (Q : Int32 → MM → Prop) : Prop :=
  G6_weigh μ (fun μ11 => G6_weighedWithin 0 μ11 (fun r13 μ12 => GJ6_bitCount_0f7a4 r13 μ12 (fun r15 μ14 => ((r15 < 2 → Q (-2) μ14) ∧ (¬ (r15 < 2) → ((2 ≤ (gI μ14 1 10) → Lp (G6_tellNext_L43 r13 Q) (7, 0, 0, 0, μ14)) ∧ (¬ (2 ≤ (gI μ14 1 10)) → Q (-2) μ14)))))))
def G11_ask  (μ : MM) (Q : Int32 → MM → Prop) : Prop :=
  G6_tellNext μ (fun r4 μ3 => Q r4 μ3)
def G6_lawsWithin (v1 : Int32) (μ : MM) (Q : Int32 → MM → Prop) : Prop :=
  G11_within v1 0 40 μ (fun r7 μ6 => ((¬ r7 = 0 → G6_weigh μ6 (fun μ9 => G6_weighedWithin v1 μ9 (fun r11 μ10 => Q r11 μ10))) ∧ (r7 = 0 → Q (-1) μ6)))
def G11_nearly (v1 : Int32) (μ : MM) (Q : Int32 → MM → Prop) : Prop :=
  G6_lawsWithin v1 μ (fun r4 μ3 => Q r4 μ3)
def G0_addProduct_L26 (t : Nat) (a1 : Nat) (a2 : Nat) (p3 : Int32) (K15 : Int32 × MM → Prop) (Q : MM → Prop) (K26 : Int32 × MM → Prop) (x : Int32 × MM) : Prop :=
  (((gI x.2 a2 1) ≤ x.1 → K15 ((p3 + 1), x.2)) ∧ (¬ ((gI x.2 a2 1) ≤ x.1) → (((gI x.2 t 1) ≤ (p3 + x.1) → K15 ((p3 + 1), x.2)) ∧ (¬ ((gI x.2 t 1) ≤ (p3 + x.1)) → vp_in (p3 + x.1) (ln (t + 1)) ∧ vp_in p3 (ln (a1 + 1)) ∧ vp_in x.1 (ln (a2 + 1)) ∧ vp_in (p3 + x.1) (ln (t + 1)) ∧ Bd (sJ x.2 (t + 1) ((p3 + x.1).toNatClampNeg) ((gJ x.2 (t + 1) ((p3 + x.1).toNatClampNeg)) + ((gJ x.2 (a1 + 1) p3.toNatClampNeg) * (gJ x.2 (a2 + 1) x.1.toNatClampNeg)))) fun μ17 => K26 ((x.1 + 1), μ17)))))
def G0_addProduct_L15 (t : Nat) (a1 : Nat) (a2 : Nat)   (Q : MM → Prop) (K15 : Int32 × MM → Prop) (x : Int32 × MM) : Prop :=
  (((gI x.2 a1 1) ≤ x.1 → G0_carry t x.2 (fun μ10 => Q μ10)) ∧ (¬ ((gI x.2 a1 1) ≤ x.1) → Lp (G0_addProduct_L26 t a1 a2 x.1 K15 Q) (0, x.2)))
def G0_addProduct (t : Nat) (a1 : Nat) (a2 : Nat) (μ : MM) (Q : MM → Prop) : Prop :=
  G0_stretch t ((gI μ a1 1) + (gI μ a2 1)) μ (fun μ8 => Lp (G0_addProduct_L15 t a1 a2 Q) (0, μ8))
def G0_limb_J21 (t : Nat)  (μ : MM)  (Q : Int64 → MM → Prop) : Prop :=
  Q 0 μ
def G0_limb (t : Nat) (v1 : Int32) (μ : MM) (Q : Int64 → MM → Prop) : Prop :=
  ((v1 < 0 → G0_limb_J21 t μ Q) ∧ (¬ (v1 < 0) → (((gI μ t 1) ≤ v1 → G0_limb_J21 t μ Q) ∧ (¬ ((gI μ t 1) ≤ v1) → vp_in v1 (ln (t + 1)) ∧ Q (gJ μ (t + 1) v1.toNatClampNeg) μ))))
def G0_cutBy (t : Nat) (v1 : Int32) (μ : MM) (Q : Int64 → MM → Prop) : Prop :=
  Bd (v1 / 2) fun y8 => G0_limb t (y8 + 1) μ (fun r10 μ9 => G0_limb t y8 μ9 (fun r12 μ11 => Bd ((r10 * 100000000) + r12) fun y13 => ((¬ (v1 - v1 / 2 * 2) = 0 → Q (y13 / 10000) μ11) ∧ ((v1 - v1 / 2 * 2) = 0 → Q y13 μ11))))
def G1_chance_L11 (a3 : Nat) (p1 : Int32) (p2 : Int32)  (Q : Int32 → MM → Prop) (K11 : Int32 × MM → Prop) (x : Int32 × MM) : Prop :=
  ((p1 < x.1 → G0_times 253 1000000 x.2 (fun μ11 => G0_cutBy 253 p1 μ11 (fun r13 μ12 => Q (r13.toInt32) μ12))) ∧ (¬ (p1 < x.1) → vp_in x.1 (ln a3) ∧ Rl (R0 a3 x.1.toNatClampNeg) fun r15 => Ob r15 0 ∧ vp_in (x.1 - p2) 17 ∧ G0_addProduct 253 r15 (259 + 6 * (x.1 - p2).toNatClampNeg) x.2 (fun μ17 => K11 ((x.1 + 1), μ17))))
def G1_chance (v1 : Int32) (v2 : Int32) (a3 : Nat) (μ : MM) (Q : Int32 → MM → Prop) : Prop :=
  G0_become 253 0 μ (fun μ9 => Lp (G1_chance_L11 a3 v1 v2 Q) (v2, μ9))
def G0_add_J47 (t : Nat) (a1 : Nat)  (μ : MM)  (Q : MM → Prop) : Prop :=
  G0_carry t μ (fun μ9 => Q μ9)
def G0_add_L10 (t : Nat) (a1 : Nat)   (Q : MM → Prop) (K10 : Int32 × MM → Prop) (x : Int32 × MM) : Prop :=
  (((gI x.2 a1 1) ≤ x.1 → G0_add_J47 t a1 x.2 Q) ∧ (¬ ((gI x.2 a1 1) ≤ x.1) → (((gI x.2 t 1) ≤ x.1 → G0_add_J47 t a1 x.2 Q) ∧ (¬ ((gI x.2 t 1) ≤ x.1) → vp_in x.1 (ln (t + 1)) ∧ vp_in x.1 (ln (a1 + 1)) ∧ vp_in x.1 (ln (t + 1)) ∧ Bd (sJ x.2 (t + 1) x.1.toNatClampNeg ((gJ x.2 (t + 1) x.1.toNatClampNeg) + (gJ x.2 (a1 + 1) x.1.toNatClampNeg))) fun μ14 => K10 ((x.1 + 1), μ14)))))
def G0_add (t : Nat) (a1 : Nat) (μ : MM) (Q : MM → Prop) : Prop :=
  G0_stretch t (gI μ a1 1) μ (fun μ7 => Lp (G0_add_L10 t a1 Q) (0, μ7))
def G1_fillWays_J36 (a0 : Nat) (p1 : Int32) (p2 : Int32) (p3 : Int32) (p4 : Int32) (q0 : Int64) (μ : MM) (K13 : Int32 × MM → Prop) (Q : MM → Prop) : Prop :=
  G0_times a0 q0 μ (fun μ10 => K13 ((p4 + 1), μ10))
def G1_fillWays_L13 (a0 : Nat) (p1 : Int32) (p2 : Int32) (p3 : Int32)  (Q : MM → Prop) (K13 : Int32 × MM → Prop) (x : Int32 × MM) : Prop :=
  ((p1 ≤ x.1 → Q x.2) ∧ (¬ (p1 ≤ x.1) → ((p2 ≤ x.1 → G1_fillWays_J36 a0 p1 p2 p3 x.1 ((100 - p3).toInt64) x.2 K13 Q) ∧ (¬ (p2 ≤ x.1) → G1_fillWays_J36 a0 p1 p2 p3 x.1 (p3.toInt64) x.2 K13 Q))))
def G1_fillWays (a0 : Nat) (v1 : Int32) (v2 : Int32) (v3 : Int32) (μ : MM) (Q : MM → Prop) : Prop :=
  G11_choices v1 v2 μ (fun r6 μ5 => G0_become a0 (r6.toInt32) μ5 (fun μ7 => Lp (G1_fillWays_L13 a0 v1 v2 v3 Q) (0, μ7)))
def G1_fill_J72  (p1 : Int32) (p2 : Int32) (p3 : Int32) (p4 : Int32) (μ : MM) (K3 : Int32 × MM → Prop) (Q : MM → Prop) : Prop :=
  vp_in p4 17 ∧ vp_in p4 17 ∧ G0_add (259 + 6 * p4.toNatClampNeg) (257 + 6 * p4.toNatClampNeg) μ (fun μ23 => K3 ((p4 + 1), μ23))
def G1_fill_L3  (p1 : Int32) (p2 : Int32) (p3 : Int32)  (Q : MM → Prop) (K3 : Int32 × MM → Prop) (x : Int32 × MM) : Prop :=
  ((p1 < x.1 → Q x.2) ∧ (¬ (p1 < x.1) → vp_in x.1 17 ∧ G1_fillWays (255 + 6 * x.1.toNatClampNeg) p1 x.1 p2 x.2 (fun μ15 => vp_in x.1 17 ∧ G1_fillWays (257 + 6 * x.1.toNatClampNeg) p1 x.1 p3 μ15 (fun μ17 => vp_in x.1 17 ∧ G0_become (259 + 6 * x.1.toNatClampNeg) 0 μ17 (fun μ19 => ((x.1 ≤ 0 → G1_fill_J72 p1 p2 p3 x.1 μ19 K3 Q) ∧ (¬ (x.1 ≤ 0) → vp_in x.1 17 ∧ vp_in (x.1 - 1) 17 ∧ G0_add (259 + 6 * x.1.toNatClampNeg) (259 + 6 * (x.1 - 1).toNatClampNeg) μ19 (fun μ26 => G1_fill_J72 p1 p2 p3 x.1 μ26 K3 Q))))))))
def G1_fill (v1 : Int32) (v2 : Int32) (v3 : Int32) (μ : MM) (Q : MM → Prop) : Prop :=
  Lp (G1_fill_L3 v1 v2 v3 Q) (0, μ)
def G1_chanceOf_J26  (p1 : Int32) (p2 : Int32) (p3 : Int32) (p4 : Int32) (q0 : Int32) (μ : MM)  (Q : Int32 → MM → Prop) : Prop :=
  ((q0 = 0 → Q (-1) μ) ∧ (¬ (q0 = 0) → G11_within p2 0 100 μ (fun r17 μ16 => ((r17 = 0 → Q (-1) μ16) ∧ (¬ (r17 = 0) → G11_within p3 0 100 μ16 (fun r20 μ19 => ((¬ r20 = 0 → G1_fill p1 p2 p3 μ19 (fun μ22 => G1_chance p1 p4 250 μ22 (fun r24 μ23 => Q r24 μ23))) ∧ (r20 = 0 → Q (-1) μ19))))))))
def G1_chanceOf_J25  (p1 : Int32) (p2 : Int32) (p3 : Int32) (p4 : Int32) (μ : MM)  (Q : Int32 → MM → Prop) : Prop :=
  G1_chanceOf_J26 p1 p2 p3 p4 0 μ Q
def G1_chanceOf (v1 : Int32) (v2 : Int32) (v3 : Int32) (v4 : Int32) (μ : MM) (Q : Int32 → MM → Prop) : Prop :=
  G11_within v1 1 16 μ (fun r13 μ12 => ((r13 = 0 → G1_chanceOf_J25 v1 v2 v3 v4 μ12 Q) ∧ (¬ (r13 = 0) → G11_within v4 1 16 μ12 (fun r26 μ25 => ((r26 = 0 → G1_chanceOf_J25 v1 v2 v3 v4 μ25 Q) ∧ (¬ (r26 = 0) → G1_chanceOf_J26 v1 v2 v3 v4 1 μ25 Q))))))
def G11_shows (v1 : Int32) (v2 : Int32) (v3 : Int32) (v4 : Int32) (μ : MM) (Q : Int32 → MM → Prop) : Prop :=
  G1_chanceOf v1 v2 v3 v4 μ (fun r4 μ3 => Q r4 μ3)
def G1_tellLeast_J148  (p1 : Int32) (p2 : Int32) (p3 : Int32) (p4 : Int32) (p6 : Int32) (p7 : Int32) (p8 : Int32) (μ : MM) (K58 : Int32 × MM → Prop) (K76 : Int32 × MM → Prop) (Q : Int32 → MM → Prop) : Prop :=
  ((p8 = 0 → K76 ((p7 + 1), μ)) ∧ (¬ (p8 = 0) → K58 ((p6 + 1), μ)))
def G1_tellLeast_J105  (p1 : Int32) (p2 : Int32) (p3 : Int32) (p4 : Int32) (p6 : Int32) (p7 : Int32) (q0 : Int32) (μ : MM) (K58 : Int32 × MM → Prop) (K76 : Int32 × MM → Prop) (Q : Int32 → MM → Prop) : Prop :=
  ((q0 = 0 → G1_tellLeast_J148 p1 p2 p3 p4 p6 p7 q0 μ K58 K76 Q) ∧ (¬ (q0 = 0) → G1_chance p6 p7 250 μ (fun r35 μ34 => ((r35 < p3 → G1_tellLeast_J148 p1 p2 p3 p4 p6 p7 q0 μ34 K58 K76 Q) ∧ (¬ (r35 < p3) → G7_clear μ34 (fun μ37 => G7_add (p7.toInt64) μ37 (fun μ38 => Q p6 μ38)))))))
def G1_tellLeast_L76  (p1 : Int32) (p2 : Int32) (p3 : Int32) (p4 : Int32) (p6 : Int32) (K58 : Int32 × MM → Prop) (Q : Int32 → MM → Prop) (K76 : Int32 × MM → Prop) (x : Int32 × MM) : Prop :=
  ((p6 < x.1 → K58 ((p6 + 1), x.2)) ∧ (¬ (p6 < x.1) → G1_chance p6 x.1 251 x.2 (fun r30 μ29 => ((p4 < r30 → G1_tellLeast_J105 p1 p2 p3 p4 p6 x.1 0 μ29 K58 K76 Q) ∧ (¬ (p4 < r30) → G1_tellLeast_J105 p1 p2 p3 p4 p6 x.1 1 μ29 K58 K76 Q)))))
def G1_tellLeast_L58  (p1 : Int32) (p2 : Int32) (p3 : Int32) (p4 : Int32)  (Q : Int32 → MM → Prop) (K58 : Int32 × MM → Prop) (x : Int32 × MM) : Prop :=
  ((16 < x.1 → Q (-2) x.2) ∧ (¬ (16 < x.1) → G1_fill x.1 p1 p2 x.2 (fun μ27 => Lp (G1_tellLeast_L76 p1 p2 p3 p4 x.1 K58 Q) (1, μ27))))
def G1_tellLeast_J26  (p1 : Int32) (p2 : Int32) (p3 : Int32) (p4 : Int32) (q0 : Int32) (μ : MM)  (Q : Int32 → MM → Prop) : Prop :=
  ((q0 = 0 → Q (-1) μ) ∧ (¬ (q0 = 0) → G11_within p1 0 100 μ (fun r21 μ20 => ((r21 = 0 → Q (-1) μ20) ∧ (¬ (r21 = 0) → G11_within p2 0 100 μ20 (fun r24 μ23 => ((¬ r24 = 0 → Lp (G1_tellLeast_L58 p1 p2 p3 p4 Q) (1, μ23)) ∧ (r24 = 0 → Q (-1) μ23))))))))
def G1_tellLeast_J25  (p1 : Int32) (p2 : Int32) (p3 : Int32) (p4 : Int32) (μ : MM)  (Q : Int32 → MM → Prop) : Prop :=
  G1_tellLeast_J26 p1 p2 p3 p4 0 μ Q
def G1_tellLeast (v1 : Int32) (v2 : Int32) (v3 : Int32) (v4 : Int32) (μ : MM) (Q : Int32 → MM → Prop) : Prop :=
  G11_within v3 1 1000000 μ (fun r17 μ16 => ((r17 = 0 → G1_tellLeast_J25 v1 v2 v3 v4 μ16 Q) ∧ (¬ (r17 = 0) → G11_within v4 0 1000000 μ16 (fun r40 μ39 => ((r40 = 0 → G1_tellLeast_J25 v1 v2 v3 v4 μ39 Q) ∧ (¬ (r40 = 0) → G1_tellLeast_J26 v1 v2 v3 v4 1 μ39 Q))))))
def G11_least (v1 : Int32) (v2 : Int32) (v3 : Int32) (v4 : Int32) (μ : MM) (Q : Int32 → MM → Prop) : Prop :=
  G1_tellLeast v1 v2 v3 v4 μ (fun r4 μ3 => Q r4 μ3)
def G5_state_J12 (t : Nat) (q0 : Int32) (μ : MM)  (Q : Int32 → MM → Prop) : Prop :=
  (((gI μ t 7) = 0 → Q ((q0 + 0) + (4 * (gI μ t 8))) μ) ∧ (¬ ((gI μ t 7) = 0) → Q ((q0 + 2) + (4 * (gI μ t 8))) μ))
def G5_state (t : Nat) (μ : MM) (Q : Int32 → MM → Prop) : Prop :=
  (((gI μ t 6) = 0 → G5_state_J12 t 0 μ Q) ∧ (¬ ((gI μ t 6) = 0) → G5_state_J12 t 1 μ Q))
def G10_keepUnder_L22  (p1 : Int32)  (Q : MM → Prop) (K22 : Int32 × MM → Prop) (x : Int32 × MM) : Prop :=
  (((gI x.2 1 10) ≤ x.1 → Q x.2) ∧ (¬ ((gI x.2 1 10) ≤ x.1) → vp_in p1 3 ∧ vp_in x.1 96 ∧ G5_state (19 + x.1.toNatClampNeg) x.2 (fun r19 μ18 => vp_in x.1 96 ∧ Bd (sI μ18 (16 + p1.toNatClampNeg) x.1.toNatClampNeg r19) fun μ21 => K22 ((x.1 + 1), μ21))))
def G10_keepUnder (v1 : Int32) (μ : MM) (Q : MM → Prop) : Prop :=
  vp_in v1 3 ∧ Bd (sI μ 13 v1.toNatClampNeg (gI μ 1 10)) fun μ12 => vp_in v1 3 ∧ Bd (sI μ12 14 v1.toNatClampNeg (gI μ12 1 14)) fun μ14 => Lp (G10_keepUnder_L22 v1 Q) (0, μ14)
def G11_keep (v1 : Int32) (μ : MM) (Q : Int32 → MM → Prop) : Prop :=
  G11_within v1 0 2 μ (fun r5 μ4 => ((¬ r5 = 0 → G10_keepUnder v1 μ4 (fun μ7 => Q 1 μ7)) ∧ (r5 = 0 → Q 0 μ4)))
def G10_bringBack_L47  (p1 : Int32)  (Q : Int32 → MM → Prop) (K47 : Int32 × MM → Prop) (x : Int32 × MM) : Prop :=
  (((gI x.2 1 10) ≤ x.1 → Q 1 x.2) ∧ (¬ ((gI x.2 1 10) ≤ x.1) → vp_in x.1 96 ∧ vp_in p1 3 ∧ vp_in x.1 96 ∧ G5_becomeState (19 + x.1.toNatClampNeg) (gI x.2 (16 + p1.toNatClampNeg) x.1.toNatClampNeg) x.2 (fun μ23 => K47 ((x.1 + 1), μ23))))
def G10_bringBack (v1 : Int32) (μ : MM) (Q : Int32 → MM → Prop) : Prop :=
  vp_in v1 3 ∧ (((gI μ 13 v1.toNatClampNeg) = (-1) → Q 0 μ) ∧ (¬ ((gI μ 13 v1.toNatClampNeg) = (-1)) → vp_in v1 3 ∧ (((gI μ 13 v1.toNatClampNeg) ≤ (gI μ 1 10) → vp_in v1 3 ∧ Bd (sI μ 1 10 (gI μ 13 v1.toNatClampNeg)) fun μ16 => vp_in v1 3 ∧ Bd (sI μ16 1 14 (gI μ16 14 v1.toNatClampNeg)) fun μ18 => Lp (G10_bringBack_L47 v1 Q) (0, μ18)) ∧ (¬ ((gI μ 13 v1.toNatClampNeg) ≤ (gI μ 1 10)) → Q 0 μ))))
def G11_again (v1 : Int32) (μ : MM) (Q : Int32 → MM → Prop) : Prop :=
  G11_within v1 0 2 μ (fun r7 μ6 => ((r7 = 0 → Q 0 μ6) ∧ (¬ (r7 = 0) → G10_bringBack v1 μ6 (fun r10 μ9 => ((¬ r10 = 0 → Bd (sI μ9 237 5 0) fun μ12 => Q 1 μ12) ∧ (r10 = 0 → Q 0 μ9))))))
def G11_toldBits_L4 (a0 : Nat)   (Q : Int32 → MM → Prop) (K4 : Int32 × Int32 × MM → Prop) (x : Int32 × Int32 × MM) : Prop :=
  ((6 ≤ x.2.1 → Q x.1 x.2.2) ∧ (¬ (6 ≤ x.2.1) → vp_in x.2.1 (ln a0) ∧ Rl (R0 a0 x.2.1.toNatClampNeg) fun r7 => Ob r7 3 ∧ G3_isTold r7 x.2.2 (fun r9 μ8 => ((r9 = 0 → K4 (x.1, (x.2.1 + 1), μ8)) ∧ (¬ (r9 = 0) → Bd (x.1 ||| (1 <<< (x.2.1 &&& 31))) fun y11 => K4 (y11, (x.2.1 + 1), μ8))))))
def G11_toldBits (a0 : Nat) (μ : MM) (Q : Int32 → MM → Prop) : Prop :=
  Lp (G11_toldBits_L4 a0 Q) (0, 0, μ)
def G10_readCount_L4    (Q : Int32 → MM → Prop) (K4 : Int32 × Int32 × MM → Prop) (x : Int32 × Int32 × MM) : Prop :=
  (((gI x.2.2 1 10) ≤ x.2.1 → Q x.1 x.2.2) ∧ (¬ ((gI x.2.2 1 10) ≤ x.2.1) → vp_in x.2.1 96 ∧ (((gI x.2.2 (19 + x.2.1.toNatClampNeg) 6) = 0 → Bd (x.1 + 0) fun y5 => K4 (y5, (x.2.1 + 1), x.2.2)) ∧ (¬ ((gI x.2.2 (19 + x.2.1.toNatClampNeg) 6) = 0) → Bd (x.1 + 1) fun y6 => K4 (y6, (x.2.1 + 1), x.2.2)))))
def G10_readCount  (μ : MM) (Q : Int32 → MM → Prop) : Prop :=
  Lp (G10_readCount_L4 Q) (0, 0, μ)
def G10_rungCount_L4    (Q : Int32 → MM → Prop) (K4 : Int32 × Int32 × MM → Prop) (x : Int32 × Int32 × MM) : Prop :=
  (((gI x.2.2 1 10) ≤ x.2.1 → Q x.1 x.2.2) ∧ (¬ ((gI x.2.2 1 10) ≤ x.2.1) → vp_in x.2.1 96 ∧ (((gI x.2.2 (19 + x.2.1.toNatClampNeg) 7) = 0 → Bd (x.1 + 0) fun y5 => K4 (y5, (x.2.1 + 1), x.2.2)) ∧ (¬ ((gI x.2.2 (19 + x.2.1.toNatClampNeg) 7) = 0) → Bd (x.1 + 1) fun y6 => K4 (y6, (x.2.1 + 1), x.2.2)))))
def G10_rungCount  (μ : MM) (Q : Int32 → MM → Prop) : Prop :=
  Lp (G10_rungCount_L4 Q) (0, 0, μ)
def G11_count (v1 : Int32) (μ : MM) (Q : Int32 → MM → Prop) : Prop :=
  ((v1 = 0 → Q (gI μ 1 4) μ) ∧ (v1 = 1 → Q (gI μ 1 8) μ) ∧ (v1 = 2 → Q (gI μ 1 10) μ) ∧ (v1 = 3 → G10_readCount μ (fun r14 μ13 => Q r14 μ13)) ∧ (v1 = 4 → G10_rungCount μ (fun r17 μ16 => Q r17 μ16)) ∧ (v1 = 5 → G11_toldBits 10 μ (fun r20 μ19 => Q r20 μ19)) ∧ (v1 = 6 → G11_toldBits 11 μ (fun r23 μ22 => Q r23 μ22)) ∧ (v1 = 7 → Q (gI μ 237 5) μ) ∧ (v1 = 8 → Q (gI μ 151 1) μ) ∧ (v1 = 9 → Q (gI μ 0 8) μ) ∧ (¬ v1 = 0 → ¬ v1 = 1 → ¬ v1 = 2 → ¬ v1 = 3 → ¬ v1 = 4 → ¬ v1 = 5 → ¬ v1 = 6 → ¬ v1 = 7 → ¬ v1 = 8 → ¬ v1 = 9 → Q (-1) μ))
def G12_thrown  (μ : MM) (Q : Int32 → MM → Prop) : Prop :=
  Q (gI μ 358 0) μ
def G12_in_J17   (μ : MM)  (Q : Int32 → MM → Prop) : Prop :=
  Q 0 μ
def G12_in (v0 : Int64) (v2 : Int64) (v4 : Int64) (μ : MM) (Q : Int32 → MM → Prop) : Prop :=
  (((lg_cmp v0 v2) < 0 → G12_in_J17 μ Q) ∧ (¬ ((lg_cmp v0 v2) < 0) → ((0 < (lg_cmp v0 v4) → G12_in_J17 μ Q) ∧ (¬ (0 < (lg_cmp v0 v4)) → Q 1 μ))))
def G12_has (v0 : Int32) (v1 : Int32) (μ : MM) (Q : Int32 → MM → Prop) : Prop :=
  ((¬ ((v0 >>> (v1 &&& 31)) &&& 1) = 1 → Q 0 μ) ∧ (((v0 >>> (v1 &&& 31)) &&& 1) = 1 → Q 1 μ))
def G12_flag (v0 : Int32) (μ : MM) (Q : Int32 → MM → Prop) : Prop :=
  ((v0 = 0 → Q 0 μ) ∧ (¬ (v0 = 0) → Q 1 μ))
def G12_refuse  (μ : MM) (Q : Int32 → MM → Prop) : Prop :=
  Bd (sI μ 358 0 1) fun μ2 => Q 0 μ2
def G12_enters (v1 : Int64) (μ : MM) (Q : MM → Prop) : Prop :=
  vp_in (gI μ 358 1) 32 ∧ Bd (sJ μ 359 ((gI μ 358 1).toNatClampNeg) v1) fun μ5 => Bd (sI μ5 358 1 ((gI μ5 358 1) + 1)) fun μ6 => Q μ6
def G12_common_L17    (Q : Int64 → MM → Prop) (K17 : Int64 × Int64 × MM → Prop) (x : Int64 × Int64 × MM) : Prop :=
  (((lg_cmp x.2.1 0) = 0 → Q x.1 x.2.2) ∧ (¬ ((lg_cmp x.2.1 0) = 0) → ¬ x.2.1 = 0 ∧ Bd (x.1 - x.1 / x.2.1 * x.2.1) fun y5 => K17 (x.2.1, y5, x.2.2)))
def G12_common (v0 : Int64) (v2 : Int64) (μ : MM) (Q : Int64 → MM → Prop) : Prop :=
  ((0 ≤ (lg_cmp v0 0) → Lp (G12_common_L17 Q) (v0, v2, μ)) ∧ (¬ (0 ≤ (lg_cmp v0 0)) → Bd (-v0) fun y6 => Lp (G12_common_L17 Q) (y6, v2, μ)))
def G12_entersFraction (v1 : Int64) (v3 : Int64) (μ : MM) (Q : MM → Prop) : Prop :=
  G12_common v1 v3 μ (fun r8 μ7 => ¬ r8 = 0 ∧ G12_enters (v1 / r8) μ7 (fun μ10 => ¬ r8 = 0 ∧ G12_enters (v3 / r8) μ10 (fun μ12 => Q μ12)))
def G12_draws (v1 : Int32) (μ : MM) (Q : Int32 → MM → Prop) : Prop :=
  Bd (sI μ 358 22 (((gI μ 358 22) * 1103515245) + 12345)) fun μ3 => ¬ v1 = 0 ∧ Q ((((gI μ3 358 22).toUInt32 >>> ((16 : Int32).toUInt32 &&& Int32.toUInt32 31)).toInt32) - (((gI μ3 358 22).toUInt32 >>> ((16 : Int32).toUInt32 &&& Int32.toUInt32 31)).toInt32) / v1 * v1) μ3
def G12_isName (v1 : Int32) (μ : MM) (Q : Int32 → MM → Prop) : Prop :=
  G12_in (v1.toInt64) 0 (((gI μ 358 3) - 1).toInt64) μ (fun r4 μ3 => bo r4 ∧ Q r4 μ3)
def G12_isHouse (v1 : Int32) (μ : MM) (Q : Int32 → MM → Prop) : Prop :=
  G12_in (v1.toInt64) 0 (((gI μ 358 8) - 1).toInt64) μ (fun r4 μ3 => bo r4 ∧ Q r4 μ3)
def G12_isLetter (v1 : Int32) (μ : MM) (Q : Int32 → MM → Prop) : Prop :=
  G12_in (v1.toInt64) 0 (((gI μ 358 12) - 1).toInt64) μ (fun r4 μ3 => bo r4 ∧ Q r4 μ3)
def G12_name (v1 : Int32) (v2 : Int32) (v3 : Int32) (μ : MM) (Q : Int32 → MM → Prop) : Prop :=
  Bd (sI μ 358 0 0) fun μ20 => G12_in (v1.toInt64) 0 1 μ20 (fun r22 μ21 => ((r22 = 0 → Q (-1) μ21) ∧ (¬ (r22 = 0) → G12_in (v2.toInt64) 0 1 μ21 (fun r25 μ24 => ((r25 = 0 → Q (-1) μ24) ∧ (¬ (r25 = 0) → ((v3 < 0 → Q (-1) μ24) ∧ (¬ (v3 < 0) → G12_in ((v3 / 101).toInt64) 0 9 μ24 (fun r29 μ28 => ((r29 = 0 → Q (-1) μ28) ∧ (¬ (r29 = 0) → ((¬ (gI μ28 358 3) = 12 → vp_in (gI μ28 358 3) 12 ∧ Bd (sI μ28 360 ((gI μ28 358 3).toNatClampNeg) v1) fun μ33 => vp_in (gI μ33 358 3) 12 ∧ Bd (sI μ33 361 ((gI μ33 358 3).toNatClampNeg) v2) fun μ35 => vp_in (gI μ35 358 3) 12 ∧ Bd (sI μ35 362 ((gI μ35 358 3).toNatClampNeg) (v3 / 101)) fun μ37 => vp_in (gI μ37 358 3) 12 ∧ Bd (sI μ37 363 ((gI μ37 358 3).toNatClampNeg) (v3 - v3 / 101 * 101)) fun μ39 => Bd (sI μ39 358 3 ((gI μ39 358 3) + 1)) fun μ40 => Q ((gI μ40 358 3) - 1) μ40) ∧ ((gI μ28 358 3) = 12 → Q (-1) μ28)))))))))))))
def G12_house (v1 : Int32) (v2 : Int32) (v3 : Int32) (μ : MM) (Q : Int32 → MM → Prop) : Prop :=
  Bd (sI μ 358 0 0) fun μ15 => G12_in (v1.toInt64) 0 3 μ15 (fun r17 μ16 => ((r17 = 0 → Q (-1) μ16) ∧ (¬ (r17 = 0) → G12_in (v2.toInt64) 0 3 μ16 (fun r20 μ19 => ((r20 = 0 → Q (-1) μ19) ∧ (¬ (r20 = 0) → G12_in (v3.toInt64) 0 5 μ19 (fun r23 μ22 => ((r23 = 0 → Q (-1) μ22) ∧ (¬ (r23 = 0) → ((¬ (gI μ22 358 8) = 24 → vp_in (gI μ22 358 8) 24 ∧ Bd (sI μ22 364 ((gI μ22 358 8).toNatClampNeg) v1) fun μ27 => vp_in (gI μ27 358 8) 24 ∧ Bd (sI μ27 365 ((gI μ27 358 8).toNatClampNeg) v2) fun μ29 => vp_in (gI μ29 358 8) 24 ∧ Bd (sI μ29 366 ((gI μ29 358 8).toNatClampNeg) v3) fun μ31 => Bd (sI μ31 358 8 ((gI μ31 358 8) + 1)) fun μ32 => Q ((gI μ32 358 8) - 1) μ32) ∧ ((gI μ22 358 8) = 24 → Q (-1) μ22)))))))))))
def G12_lettersTo_J28  (p1 : Int32) (p3 : Int32) (q0 : Int32) (q1 : Int32) (μ : MM) (K4 : Int32 × Int32 × MM → Prop) (Q : Int32 → MM → Prop) : Prop :=
  G12_flag q0 μ (fun r8 μ7 => Bd (q1 + r8) fun y9 => K4 (y9, (p3 + 1), μ7))
def G12_lettersTo_L4  (p1 : Int32)  (Q : Int32 → MM → Prop) (K4 : Int32 × Int32 × MM → Prop) (x : Int32 × Int32 × MM) : Prop :=
  (((gI x.2.2 358 12) ≤ x.2.1 → Q x.1 x.2.2) ∧ (¬ ((gI x.2.2 358 12) ≤ x.2.1) → vp_in x.2.1 96 ∧ ((¬ (gI x.2.2 367 x.2.1.toNatClampNeg) = p1 → G12_lettersTo_J28 p1 x.2.1 0 x.1 x.2.2 K4 Q) ∧ ((gI x.2.2 367 x.2.1.toNatClampNeg) = p1 → G12_lettersTo_J28 p1 x.2.1 1 x.1 x.2.2 K4 Q))))
def G12_lettersTo (v1 : Int32) (μ : MM) (Q : Int32 → MM → Prop) : Prop :=
  Lp (G12_lettersTo_L4 v1 Q) (0, 0, μ)
def G12_lays (v1 : Int32) (v2 : Int32) (v3 : Int32) (v4 : Int32) (v5 : Int32) (v6 : Int32) (μ : MM) (Q : MM → Prop) : Prop :=
  Bd (gI μ 358 12) fun y20 => vp_in y20 96 ∧ Bd (sI μ 367 y20.toNatClampNeg v1) fun μ22 => vp_in y20 96 ∧ Bd (sI μ22 368 y20.toNatClampNeg v2) fun μ24 => vp_in y20 96 ∧ Bd (sI μ24 369 y20.toNatClampNeg v3) fun μ26 => vp_in y20 96 ∧ Bd (sI μ26 370 y20.toNatClampNeg v4) fun μ28 => vp_in y20 96 ∧ Bd (sI μ28 371 y20.toNatClampNeg v5) fun μ30 => vp_in y20 96 ∧ Bd (sI μ30 372 y20.toNatClampNeg v6) fun μ32 => vp_in y20 96 ∧ Bd (sI μ32 373 y20.toNatClampNeg (vp_nar .boolean 0)) fun μ34 => vp_in y20 96 ∧ Bd (sI μ34 374 y20.toNatClampNeg (vp_nar .boolean 0)) fun μ36 => vp_in y20 96 ∧ Bd (sI μ36 375 y20.toNatClampNeg 0) fun μ38 => Bd (sI μ38 358 12 ((gI μ38 358 12) + 1)) fun μ39 => Q μ39
def G12_letter_J71  (p1 : Int32) (p2 : Int32) (p3 : Int32) (p4 : Int32) (p5 : Int32) (q0 : Int32) (μ : MM)  (Q : Int32 → MM → Prop) : Prop :=
  ((q0 = 0 → Q (-1) μ) ∧ (¬ (q0 = 0) → (((gI μ 358 12) = 96 → Q (-1) μ) ∧ (¬ ((gI μ 358 12) = 96) → G12_lettersTo p1 μ (fun r25 μ24 => ((¬ r25 = 4 → G12_lays p1 p2 p3 (p4 / 4) (p4 - p4 / 4 * 4) p5 μ24 (fun μ27 => Q ((gI μ27 358 12) - 1) μ27)) ∧ (r25 = 4 → Q (-1) μ24)))))))
def G12_letter_J70  (p1 : Int32) (p2 : Int32) (p3 : Int32) (p4 : Int32) (p5 : Int32) (μ : MM)  (Q : Int32 → MM → Prop) : Prop :=
  G12_letter_J71 p1 p2 p3 p4 p5 0 μ Q
def G12_letter (v1 : Int32) (v2 : Int32) (v3 : Int32) (v4 : Int32) (v5 : Int32) (μ : MM) (Q : Int32 → MM → Prop) : Prop :=
  Bd (sI μ 358 0 0) fun μ18 => G12_isHouse v1 μ18 (fun r20 μ19 => ((r20 = 0 → G12_letter_J70 v1 v2 v3 v4 v5 μ19 Q) ∧ (¬ (r20 = 0) → G12_isName v2 μ19 (fun r29 μ28 => ((r29 = 0 → G12_letter_J70 v1 v2 v3 v4 v5 μ28 Q) ∧ (¬ (r29 = 0) → G12_in (v3.toInt64) 0 99 μ28 (fun r32 μ31 => ((r32 = 0 → G12_letter_J70 v1 v2 v3 v4 v5 μ31 Q) ∧ (¬ (r32 = 0) → ((v4 < 0 → G12_letter_J70 v1 v2 v3 v4 v5 μ31 Q) ∧ (¬ (v4 < 0) → G12_in ((v4 / 4).toInt64) 0 9 μ31 (fun r36 μ35 => ((r36 = 0 → G12_letter_J70 v1 v2 v3 v4 v5 μ35 Q) ∧ (¬ (r36 = 0) → G12_in (v5.toInt64) 0 399 μ35 (fun r39 μ38 => ((r39 = 0 → G12_letter_J70 v1 v2 v3 v4 v5 μ38 Q) ∧ (¬ (r39 = 0) → G12_letter_J71 v1 v2 v3 v4 v5 1 μ38 Q)))))))))))))))))
def G12_namesOf_J28  (p1 : Int32) (p3 : Int32) (q0 : Int32) (q1 : Int32) (μ : MM) (K4 : Int32 × Int32 × MM → Prop) (Q : Int32 → MM → Prop) : Prop :=
  G12_flag q0 μ (fun r8 μ7 => Bd (q1 + r8) fun y9 => K4 (y9, (p3 + 1), μ7))
def G12_namesOf_L4  (p1 : Int32)  (Q : Int32 → MM → Prop) (K4 : Int32 × Int32 × MM → Prop) (x : Int32 × Int32 × MM) : Prop :=
  (((gI x.2.2 358 3) ≤ x.2.1 → Q x.1 x.2.2) ∧ (¬ ((gI x.2.2 358 3) ≤ x.2.1) → vp_in x.2.1 12 ∧ ((¬ (gI x.2.2 360 x.2.1.toNatClampNeg) = p1 → G12_namesOf_J28 p1 x.2.1 0 x.1 x.2.2 K4 Q) ∧ ((gI x.2.2 360 x.2.1.toNatClampNeg) = p1 → G12_namesOf_J28 p1 x.2.1 1 x.1 x.2.2 K4 Q))))
def G12_namesOf (v1 : Int32) (μ : MM) (Q : Int32 → MM → Prop) : Prop :=
  Lp (G12_namesOf_L4 v1 Q) (0, 0, μ)
def G12_freeName_J100  (p1 : Int32) (p2 : Int32) (p3 : Int32) (p4 : Int32) (p5 : Int32) (p6 : Int32) (μ : MM) (K6 : Int32 × Int32 × MM → Prop) (Q : Int32 → MM → Prop) : Prop :=
  G12_flag p6 μ (fun r12 μ11 => Bd (p4 + r12) fun y13 => K6 (y13, (p5 + 1), μ11))
def G12_freeName_J77  (p1 : Int32) (p2 : Int32) (p3 : Int32) (p4 : Int32) (p5 : Int32) (p7 : Int32) (μ : MM) (K6 : Int32 × Int32 × MM → Prop) (K36 : Int32 × Int32 × MM → Prop) (Q : Int32 → MM → Prop) : Prop :=
  K36 (0, (p7 + 1), μ)
def G12_freeName_L36  (p1 : Int32) (p2 : Int32) (p3 : Int32) (p4 : Int32) (p5 : Int32) (K6 : Int32 × Int32 × MM → Prop) (Q : Int32 → MM → Prop) (K36 : Int32 × Int32 × MM → Prop) (x : Int32 × Int32 × MM) : Prop :=
  (((gI x.2.2 358 12) ≤ x.2.1 → ((x.1 = 0 → G12_freeName_J100 p1 p2 p3 p4 p5 x.1 x.2.2 K6 Q) ∧ (¬ (x.1 = 0) → ((¬ p4 = p3 → G12_freeName_J100 p1 p2 p3 p4 p5 x.1 x.2.2 K6 Q) ∧ (p4 = p3 → Q p5 x.2.2))))) ∧ (¬ ((gI x.2.2 358 12) ≤ x.2.1) → ((x.1 = 0 → G12_freeName_J77 p1 p2 p3 p4 p5 x.2.1 x.2.2 K6 K36 Q) ∧ (¬ (x.1 = 0) → vp_in x.2.1 96 ∧ ((¬ (gI x.2.2 367 x.2.1.toNatClampNeg) = p1 → K36 (1, (x.2.1 + 1), x.2.2)) ∧ ((gI x.2.2 367 x.2.1.toNatClampNeg) = p1 → vp_in x.2.1 96 ∧ (((gI x.2.2 368 x.2.1.toNatClampNeg) = p5 → G12_freeName_J77 p1 p2 p3 p4 p5 x.2.1 x.2.2 K6 K36 Q) ∧ (¬ ((gI x.2.2 368 x.2.1.toNatClampNeg) = p5) → K36 (1, (x.2.1 + 1), x.2.2)))))))))
def G12_freeName_L6  (p1 : Int32) (p2 : Int32) (p3 : Int32)  (Q : Int32 → MM → Prop) (K6 : Int32 × Int32 × MM → Prop) (x : Int32 × Int32 × MM) : Prop :=
  (((gI x.2.2 358 3) ≤ x.2.1 → Q x.1 x.2.2) ∧ (¬ ((gI x.2.2 358 3) ≤ x.2.1) → vp_in x.2.1 12 ∧ ((¬ (gI x.2.2 360 x.2.1.toNatClampNeg) = p2 → Lp (G12_freeName_L36 p1 p2 p3 x.1 x.2.1 K6 Q) (0, 0, x.2.2)) ∧ ((gI x.2.2 360 x.2.1.toNatClampNeg) = p2 → Lp (G12_freeName_L36 p1 p2 p3 x.1 x.2.1 K6 Q) (1, 0, x.2.2)))))
def G12_freeName (v1 : Int32) (v2 : Int32) (v3 : Int32) (μ : MM) (Q : Int32 → MM → Prop) : Prop :=
  Lp (G12_freeName_L6 v1 v2 v3 Q) (0, 0, μ)
def G12_deal_J251  (p1 : Int32) (p2 : Int32) (p3 : Int32) (p6 : Int32) (p7 : Int32) (p9 : Int32) (p10 : Int32) (p12 : Int32) (p13 : Int32) (q0 : Int32) (q1 : Int32) (q2 : Int32) (μ : MM) (K167 : Int32 × MM → Prop) (Q : Int32 → MM → Prop) : Prop :=
  G12_lays q2 q1 q0 0 p12 p13 μ (fun μ70 => vp_in p10 2 ∧ vp_in p10 2 ∧ Bd (sI μ70 376 p10.toNatClampNeg ((gI μ70 376 p10.toNatClampNeg) + 1)) fun μ73 => K167 ((p9 + 1), μ73))
def G12_deal_J192  (p1 : Int32) (p2 : Int32) (p3 : Int32) (p6 : Int32) (p7 : Int32) (p9 : Int32) (q0 : Int32) (μ : MM) (K167 : Int32 × MM → Prop) (Q : Int32 → MM → Prop) : Prop :=
  G12_flag q0 μ (fun r57 μ56 => G12_freeName p1 r57 (-1) μ56 (fun r59 μ58 => G12_draws r59 μ58 (fun r61 μ60 => G12_freeName p1 r57 r61 μ60 (fun r63 μ62 => G12_draws 4 μ62 (fun r65 μ64 => G12_draws 400 μ64 (fun r67 μ66 => vp_in r57 2 ∧ ((¬ (gI μ66 376 r57.toNatClampNeg) = 0 → G12_deal_J251 p1 p2 p3 p6 p7 p9 r57 r65 r67 p3 r63 p1 μ66 K167 Q) ∧ ((gI μ66 376 r57.toNatClampNeg) = 0 → G12_deal_J251 p1 p2 p3 p6 p7 p9 r57 r65 r67 p2 r63 p1 μ66 K167 Q))))))))
def G12_deal_J187  (p1 : Int32) (p2 : Int32) (p3 : Int32) (p6 : Int32) (p7 : Int32) (p9 : Int32) (μ : MM) (K167 : Int32 × MM → Prop) (Q : Int32 → MM → Prop) : Prop :=
  G12_deal_J192 p1 p2 p3 p6 p7 p9 1 μ K167 Q
def G12_deal_L167  (p1 : Int32) (p2 : Int32) (p3 : Int32) (p6 : Int32) (p7 : Int32)  (Q : Int32 → MM → Prop) (K167 : Int32 × MM → Prop) (x : Int32 × MM) : Prop :=
  ((4 ≤ x.1 → Q (gI x.2 358 12) x.2) ∧ (¬ (4 ≤ x.1) → ((x.1 = p6 → G12_deal_J187 p1 p2 p3 p6 p7 x.1 x.2 K167 Q) ∧ (¬ (x.1 = p6) → ((¬ x.1 = p7 → G12_deal_J192 p1 p2 p3 p6 p7 x.1 0 x.2 K167 Q) ∧ (x.1 = p7 → G12_deal_J187 p1 p2 p3 p6 p7 x.1 x.2 K167 Q))))))
def G12_deal_J146  (p1 : Int32) (p2 : Int32) (p3 : Int32) (p6 : Int32) (q0 : Int32) (μ : MM)  (Q : Int32 → MM → Prop) : Prop :=
  Bd (sI μ 376 0 0) fun μ52 => Bd (sI μ52 376 1 0) fun μ53 => Lp (G12_deal_L167 p1 p2 p3 p6 q0 Q) (0, μ53)
def G12_deal_J117  (p1 : Int32) (p2 : Int32) (p3 : Int32) (p5 : Int32) (q0 : Int32) (μ : MM)  (Q : Int32 → MM → Prop) : Prop :=
  ((3 ≤ p5 → ((5 ≤ p5 → G12_deal_J146 p1 p2 p3 q0 3 μ Q) ∧ (¬ (5 ≤ p5) → G12_deal_J146 p1 p2 p3 q0 (p5 - 1) μ Q))) ∧ (¬ (3 ≤ p5) → G12_deal_J146 p1 p2 p3 q0 (p5 + 1) μ Q))
def G12_deal_J60  (p1 : Int32) (p2 : Int32) (p3 : Int32) (q0 : Int32) (μ : MM)  (Q : Int32 → MM → Prop) : Prop :=
  ((q0 = 0 → Q (-1) μ) ∧ (¬ (q0 = 0) → G12_lettersTo p1 μ (fun r43 μ42 => ((0 < r43 → Q (-1) μ42) ∧ (¬ (0 < r43) → ((((gI μ42 358 12) + 4) ≤ 96 → G12_draws 6 μ42 (fun r47 μ46 => ((3 ≤ r47 → ((5 ≤ r47 → G12_deal_J117 p1 p2 p3 r47 2 μ46 Q) ∧ (¬ (5 ≤ r47) → G12_deal_J117 p1 p2 p3 r47 1 μ46 Q))) ∧ (¬ (3 ≤ r47) → G12_deal_J117 p1 p2 p3 r47 0 μ46 Q)))) ∧ (¬ (((gI μ42 358 12) + 4) ≤ 96) → Q (-1) μ42)))))))
def G12_deal_J59  (p1 : Int32) (p2 : Int32) (p3 : Int32) (μ : MM)  (Q : Int32 → MM → Prop) : Prop :=
  G12_deal_J60 p1 p2 p3 0 μ Q
def G12_deal (v1 : Int32) (v2 : Int32) (v3 : Int32) (μ : MM) (Q : Int32 → MM → Prop) : Prop :=
  Bd (sI μ 358 0 0) fun μ37 => G12_isHouse v1 μ37 (fun r39 μ38 => ((r39 = 0 → G12_deal_J59 v1 v2 v3 μ38 Q) ∧ (¬ (r39 = 0) → G12_in (v2.toInt64) 0 99 μ38 (fun r76 μ75 => ((r76 = 0 → G12_deal_J59 v1 v2 v3 μ75 Q) ∧ (¬ (r76 = 0) → G12_in (v3.toInt64) 0 99 μ75 (fun r79 μ78 => ((r79 = 0 → G12_deal_J59 v1 v2 v3 μ78 Q) ∧ (¬ (r79 = 0) → G12_namesOf 0 μ78 (fun r82 μ81 => ((r82 ≤ 1 → G12_deal_J59 v1 v2 v3 μ81 Q) ∧ (¬ (r82 ≤ 1) → G12_namesOf 1 μ81 (fun r85 μ84 => ((r85 ≤ 1 → G12_deal_J59 v1 v2 v3 μ84 Q) ∧ (¬ (r85 ≤ 1) → G12_deal_J60 v1 v2 v3 1 μ84 Q)))))))))))))))
def G12_of_J25   (μ : MM)  (Q : Int32 → MM → Prop) : Prop :=
  G12_refuse μ (fun r26 μ25 => Q r26 μ25)
def G12_of (v1 : Int32) (v2 : Int32) (μ : MM) (Q : Int32 → MM → Prop) : Prop :=
  Bd (sI μ 358 0 0) fun μ21 => G12_isLetter v1 μ21 (fun r23 μ22 => ((r23 = 0 → G12_of_J25 μ22 Q) ∧ (¬ (r23 = 0) → G12_in (v2.toInt64) 0 8 μ22 (fun r28 μ27 => ((¬ r28 = 0 → ((v2 = 0 → vp_in v1 96 ∧ Q (gI μ27 367 v1.toNatClampNeg) μ27) ∧ (v2 = 1 → vp_in v1 96 ∧ Q (gI μ27 368 v1.toNatClampNeg) μ27) ∧ (v2 = 2 → vp_in v1 96 ∧ Q (gI μ27 369 v1.toNatClampNeg) μ27) ∧ (v2 = 3 → vp_in v1 96 ∧ Q (gI μ27 370 v1.toNatClampNeg) μ27) ∧ (v2 = 4 → vp_in v1 96 ∧ Q (gI μ27 371 v1.toNatClampNeg) μ27) ∧ (v2 = 5 → vp_in v1 96 ∧ Q (gI μ27 372 v1.toNatClampNeg) μ27) ∧ (v2 = 6 → vp_in v1 96 ∧ G12_flag (gI μ27 373 v1.toNatClampNeg) μ27 (fun r45 μ44 => Q r45 μ44)) ∧ (v2 = 7 → vp_in v1 96 ∧ G12_flag (gI μ27 374 v1.toNatClampNeg) μ27 (fun r49 μ48 => Q r49 μ48)) ∧ (¬ v2 = 0 → ¬ v2 = 1 → ¬ v2 = 2 → ¬ v2 = 3 → ¬ v2 = 4 → ¬ v2 = 5 → ¬ v2 = 6 → ¬ v2 = 7 → vp_in v1 96 ∧ Q (gI μ27 375 v1.toNatClampNeg) μ27))) ∧ (r28 = 0 → G12_of_J25 μ27 Q))))))
def G12_sign_L18  (p1 : Int32)  (Q : Int32 → MM → Prop) (K18 : Int32 × MM → Prop) (x : Int32 × MM) : Prop :=
  ((4 ≤ x.1 → Bd (sI x.2 358 28 ((gI x.2 358 28) + 4)) fun μ8 => Q (gI μ8 358 28) μ8) ∧ (¬ (4 ≤ x.1) → vp_in ((gI x.2 358 28) + x.1) 60 ∧ Bd (sI x.2 380 (((gI x.2 358 28) + x.1).toNatClampNeg) ((p1 >>> ((24 - (8 * x.1)) &&& 31)) &&& 255)) fun μ10 => K18 ((x.1 + 1), μ10)))
def G12_sign (v1 : Int32) (μ : MM) (Q : Int32 → MM → Prop) : Prop :=
  Bd (sI μ 358 0 0) fun μ5 => (((gI μ5 358 28) ≤ 56 → Lp (G12_sign_L18 v1 Q) (0, μ5)) ∧ (¬ ((gI μ5 358 28) ≤ 56) → Q (-1) μ5))
def G12_end (v1 : Int32) (μ : MM) (Q : Int32 → MM → Prop) : Prop :=
  Bd (sI μ 358 0 0) fun μ5 => G12_in (v1.toInt64) 0 ((gI μ5 358 28).toInt64) μ5 (fun r7 μ6 => ((¬ r7 = 0 → Bd (sI μ6 358 28 v1) fun μ9 => Q 1 μ9) ∧ (r7 = 0 → Q 0 μ6)))
def G12_isDigit_J37   (μ : MM)  (Q : Int32 → MM → Prop) : Prop :=
  Q 0 μ
def G12_isDigit  (μ : MM) (Q : Int32 → MM → Prop) : Prop :=
  (((gI μ 358 30) ≤ (gI μ 358 29) → G12_isDigit_J37 μ Q) ∧ (¬ ((gI μ 358 30) ≤ (gI μ 358 29)) → vp_in (gI μ 358 29) 60 ∧ G12_in ((gI μ 380 ((gI μ 358 29).toNatClampNeg)).toInt64) 48 57 μ (fun r7 μ6 => ((r7 = 0 → G12_isDigit_J37 μ6 Q) ∧ (¬ (r7 = 0) → Q 1 μ6)))))
def G12_marks (v1 : Int32) (μ : MM) (Q : MM → Prop) : Prop :=
  vp_in (576 + (gI μ 378 12)) 624 ∧ Bd (sI μ 377 ((576 + (gI μ 378 12)).toNatClampNeg) v1) fun μ8 => Bd (sI μ8 378 12 ((gI μ8 378 12) + 1)) fun μ9 => Q μ9
def G12_countsTill_L17  (p1 : Int32)  (Q : MM → Prop) (K17 : Int32 × MM → Prop) (x : Int32 × MM) : Prop :=
  (((gI x.2 358 12) ≤ x.1 → Q x.2) ∧ (¬ ((gI x.2 358 12) ≤ x.1) → vp_in x.1 96 ∧ ((¬ (gI x.2 367 x.1.toNatClampNeg) = p1 → K17 ((x.1 + 1), x.2)) ∧ ((gI x.2 367 x.1.toNatClampNeg) = p1 → vp_in x.1 96 ∧ (((gI x.2 373 x.1.toNatClampNeg) = 0 → K17 ((x.1 + 1), x.2)) ∧ (¬ ((gI x.2 373 x.1.toNatClampNeg) = 0) → vp_in x.1 96 ∧ G12_flag (gI x.2 374 x.1.toNatClampNeg) x.2 (fun r23 μ22 => Bd (sI μ22 358 33 ((gI x.2 358 33) + r23)) fun μ24 => Bd (sI μ24 358 34 ((gI μ24 358 34) + 1)) fun μ25 => vp_in x.1 96 ∧ Bd (sI μ25 358 35 (if (gI μ25 358 35) < (gI μ25 369 x.1.toNatClampNeg) then (gI μ25 369 x.1.toNatClampNeg) else (gI μ25 358 35))) fun μ27 => K17 ((x.1 + 1), μ27))))))))
def G12_countsTill (v1 : Int32) (μ : MM) (Q : MM → Prop) : Prop :=
  Bd (sI μ 358 33 0) fun μ13 => Bd (sI μ13 358 34 0) fun μ14 => Bd (sI μ14 358 35 0) fun μ15 => Lp (G12_countsTill_L17 v1 Q) (0, μ15)
def G12_countsNone  (μ : MM) (Q : MM → Prop) : Prop :=
  Bd (sI μ 358 33 0) fun μ4 => Bd (sI μ4 358 34 0) fun μ5 => Bd (sI μ5 358 35 0) fun μ6 => Q μ6
def G12_valueOf (v1 : Int32) (v2 : Int32) (μ : MM) (Q : Int32 → MM → Prop) : Prop :=
  vp_in v2 96 ∧ Bd (gI μ 368 v2.toNatClampNeg) fun y18 => Bd (v1 - 1000) fun y19 => ((y19 = 0 → vp_in v2 96 ∧ Q (gI μ 369 v2.toNatClampNeg) μ) ∧ (y19 = 1 → vp_in v2 96 ∧ Q (gI μ 370 v2.toNatClampNeg) μ) ∧ (y19 = 2 → vp_in v2 96 ∧ Q (gI μ 371 v2.toNatClampNeg) μ) ∧ (y19 = 3 → vp_in v2 96 ∧ Q (gI μ 372 v2.toNatClampNeg) μ) ∧ (y19 = 4 → vp_in y18 12 ∧ Q (gI μ 360 y18.toNatClampNeg) μ) ∧ (y19 = 5 → vp_in y18 12 ∧ Q (gI μ 361 y18.toNatClampNeg) μ) ∧ (y19 = 6 → vp_in y18 12 ∧ Q (gI μ 362 y18.toNatClampNeg) μ) ∧ (y19 = 7 → vp_in y18 12 ∧ Q (gI μ 363 y18.toNatClampNeg) μ) ∧ (y19 = 8 → vp_in v2 96 ∧ vp_in (gI μ 367 v2.toNatClampNeg) 24 ∧ Q (gI μ 364 ((gI μ 367 v2.toNatClampNeg).toNatClampNeg)) μ) ∧ (y19 = 9 → vp_in v2 96 ∧ vp_in (gI μ 367 v2.toNatClampNeg) 24 ∧ Q (gI μ 365 ((gI μ 367 v2.toNatClampNeg).toNatClampNeg)) μ) ∧ (y19 = 10 → Q (gI μ 358 33) μ) ∧ (y19 = 11 → Q (gI μ 358 34) μ) ∧ (y19 = 12 → Q (gI μ 358 35) μ) ∧ (¬ y19 = 0 → ¬ y19 = 1 → ¬ y19 = 2 → ¬ y19 = 3 → ¬ y19 = 4 → ¬ y19 = 5 → ¬ y19 = 6 → ¬ y19 = 7 → ¬ y19 = 8 → ¬ y19 = 9 → ¬ y19 = 10 → ¬ y19 = 11 → ¬ y19 = 12 → vp_in v2 96 ∧ G12_flag (gI μ 374 v2.toNatClampNeg) μ (fun r47 μ46 => Q r47 μ46)))
def G12_acted_J183  (q0 : Int32) (μ : MM)  (Q : Int32 → MM → Prop) : Prop :=
  G12_flag q0 μ (fun r14 μ13 => Q r14 μ13)
def G12_acted_J182   (μ : MM)  (Q : Int32 → MM → Prop) : Prop :=
  G12_acted_J183 0 μ Q
def G12_acted_J138  (q0 : Int32) (μ : MM)  (Q : Int32 → MM → Prop) : Prop :=
  G12_flag q0 μ (fun r22 μ21 => Q r22 μ21)
def G12_acted_J166  (q0 : Int32) (μ : MM)  (Q : Int32 → MM → Prop) : Prop :=
  G12_flag q0 μ (fun r26 μ25 => Q r26 μ25)
def G12_acted_J152  (q0 : Int32) (μ : MM)  (Q : Int32 → MM → Prop) : Prop :=
  G12_flag q0 μ (fun r30 μ29 => Q r30 μ29)
def G12_acted_J200  (q0 : Int32) (μ : MM)  (Q : Int32 → MM → Prop) : Prop :=
  G12_flag q0 μ (fun r33 μ32 => Q r33 μ32)
def G12_acted_J195   (μ : MM)  (Q : Int32 → MM → Prop) : Prop :=
  G12_acted_J200 1 μ Q
def G12_acted (v0 : Int32) (v1 : Int32) (v2 : Int32) (μ : MM) (Q : Int32 → MM → Prop) : Prop :=
  ((v0 = 38 → ((v1 = 0 → G12_acted_J182 μ Q) ∧ (¬ (v1 = 0) → ((v2 = 0 → G12_acted_J182 μ Q) ∧ (¬ (v2 = 0) → G12_acted_J183 1 μ Q))))) ∧ (v0 = 42 → Q (v1 * v2) μ) ∧ (v0 = 43 → Q (v1 + v2) μ) ∧ (v0 = 45 → Q (v1 - v2) μ) ∧ (v0 = 60 → ((v2 ≤ v1 → G12_acted_J138 0 μ Q) ∧ (¬ (v2 ≤ v1) → G12_acted_J138 1 μ Q))) ∧ (v0 = 61 → ((¬ v1 = v2 → G12_acted_J166 0 μ Q) ∧ (v1 = v2 → G12_acted_J166 1 μ Q))) ∧ (v0 = 62 → ((v1 ≤ v2 → G12_acted_J152 0 μ Q) ∧ (¬ (v1 ≤ v2) → G12_acted_J152 1 μ Q))) ∧ (¬ v0 = 38 → ¬ v0 = 42 → ¬ v0 = 43 → ¬ v0 = 45 → ¬ v0 = 60 → ¬ v0 = 61 → ¬ v0 = 62 → ((¬ v1 = 0 → G12_acted_J195 μ Q) ∧ (v1 = 0 → ((v2 = 0 → G12_acted_J200 0 μ Q) ∧ (¬ (v2 = 0) → G12_acted_J195 μ Q))))))
def G12_worked_J101  (p1 : Int32) (p2 : Int32) (p3 : Int32) (p4 : Int32) (q0 : Int32) (q1 : Int32) (μ : MM) (K5 : Int32 × Int32 × MM → Prop) (Q : Int32 → MM → Prop) : Prop :=
  G12_flag q0 μ (fun r41 μ40 => vp_in q1 48 ∧ Bd (sI μ40 379 q1.toNatClampNeg r41) fun μ43 => K5 (p3, (p4 + 1), μ43))
def G12_worked_L5  (p1 : Int32) (p2 : Int32)  (Q : Int32 → MM → Prop) (K5 : Int32 × Int32 × MM → Prop) (x : Int32 × Int32 × MM) : Prop :=
  vp_in p1 13 ∧ (((gI x.2.2 378 p1.toNatClampNeg) ≤ x.2.1 → Q (gI x.2.2 379 0) x.2.2) ∧ (¬ ((gI x.2.2 378 p1.toNatClampNeg) ≤ x.2.1) → vp_in ((48 * p1) + x.2.1) 624 ∧ Bd (gI x.2.2 377 (((48 * p1) + x.2.1).toNatClampNeg)) fun y25 => ((2000 ≤ y25 → ((¬ y25 = 2033 → ((¬ y25 = 2126 → vp_in ((x.1 + (-1)) - 1) 48 ∧ vp_in (x.1 + (-1)) 48 ∧ G12_acted (y25 - 2000) (gI x.2.2 379 (((x.1 + (-1)) - 1).toNatClampNeg)) (gI x.2.2 379 ((x.1 + (-1)).toNatClampNeg)) x.2.2 (fun r32 μ31 => vp_in ((x.1 + (-1)) - 1) 48 ∧ Bd (sI μ31 379 (((x.1 + (-1)) - 1).toNatClampNeg) r32) fun μ34 => K5 ((x.1 + (-1)), (x.2.1 + 1), μ34))) ∧ (y25 = 2126 → vp_in (x.1 - 1) 48 ∧ vp_in (x.1 - 1) 48 ∧ Bd (sI x.2.2 379 ((x.1 - 1).toNatClampNeg) (-(gI x.2.2 379 ((x.1 - 1).toNatClampNeg)))) fun μ37 => K5 (x.1, (x.2.1 + 1), μ37)))) ∧ (y25 = 2033 → vp_in (x.1 - 1) 48 ∧ ((¬ (gI x.2.2 379 ((x.1 - 1).toNatClampNeg)) = 0 → G12_worked_J101 p1 p2 x.1 x.2.1 0 (x.1 - 1) x.2.2 K5 Q) ∧ ((gI x.2.2 379 ((x.1 - 1).toNatClampNeg)) = 0 → G12_worked_J101 p1 p2 x.1 x.2.1 1 (x.1 - 1) x.2.2 K5 Q))))) ∧ (¬ (2000 ≤ y25) → ((1000 ≤ y25 → G12_valueOf y25 p2 x.2.2 (fun r46 μ45 => vp_in x.1 48 ∧ Bd (sI μ45 379 x.1.toNatClampNeg r46) fun μ48 => K5 ((x.1 + 1), (x.2.1 + 1), μ48))) ∧ (¬ (1000 ≤ y25) → vp_in x.1 48 ∧ Bd (sI x.2.2 379 x.1.toNatClampNeg y25) fun μ50 => K5 ((x.1 + 1), (x.2.1 + 1), μ50)))))))
def G12_worked (v1 : Int32) (v2 : Int32) (μ : MM) (Q : Int32 → MM → Prop) : Prop :=
  Lp (G12_worked_L5 v1 v2 Q) (0, 0, μ)
def G12_isTold_J25   (μ : MM)  (Q : Int32 → MM → Prop) : Prop :=
  Q 0 μ
def G12_isTold (v1 : Int32) (μ : MM) (Q : Int32 → MM → Prop) : Prop :=
  G12_in (v1.toInt64) 0 5 μ (fun r5 μ4 => ((r5 = 0 → G12_isTold_J25 μ4 Q) ∧ (¬ (r5 = 0) → vp_in v1 13 ∧ (((gI μ4 378 v1.toNatClampNeg) ≤ 0 → G12_isTold_J25 μ4 Q) ∧ (¬ ((gI μ4 378 v1.toNatClampNeg) ≤ 0) → Q 1 μ4)))))
def G12_value_J21   (μ : MM)  (Q : Int32 → MM → Prop) : Prop :=
  G12_refuse μ (fun r17 μ16 => Q r17 μ16)
def G12_value (v1 : Int32) (v2 : Int32) (μ : MM) (Q : Int32 → MM → Prop) : Prop :=
  Bd (sI μ 358 0 0) fun μ12 => G12_isLetter v2 μ12 (fun r14 μ13 => ((r14 = 0 → G12_value_J21 μ13 Q) ∧ (¬ (r14 = 0) → G12_isTold v1 μ13 (fun r19 μ18 => ((¬ r19 = 0 → vp_in v2 96 ∧ G12_countsTill (gI μ18 367 v2.toNatClampNeg) μ18 (fun μ22 => G12_worked v1 v2 μ22 (fun r24 μ23 => Q r24 μ23))) ∧ (r19 = 0 → G12_value_J21 μ18 Q))))))
def G12_read_J164  (p1 : Int32) (p2 : Int32) (p3 : Int32) (p4 : Int32) (q0 : Int32) (q1 : Int32) (μ : MM) (K23 : Int32 × Int32 × MM → Prop) (Q : Int32 → MM → Prop) : Prop :=
  vp_in q1 96 ∧ Bd (sI μ 374 q1.toNatClampNeg (vp_nar .boolean q0)) fun μ40 => vp_in p4 96 ∧ Bd (sI μ40 373 p4.toNatClampNeg (vp_nar .boolean 1)) fun μ42 => vp_in p4 96 ∧ G12_flag (gI μ42 374 p4.toNatClampNeg) μ42 (fun r45 μ44 => Bd (p2 + r45) fun y46 => K23 (y46, (p3 + 1), μ44))
def G12_read_J163  (p1 : Int32) (p2 : Int32) (p3 : Int32) (p4 : Int32) (q0 : Int32) (μ : MM) (K23 : Int32 × Int32 × MM → Prop) (Q : Int32 → MM → Prop) : Prop :=
  G12_read_J164 p1 p2 p3 p4 0 q0 μ K23 Q
def G12_read_J80  (p1 : Int32) (p2 : Int32) (p3 : Int32) (p4 : Int32) (p5 : Int32) (μ : MM) (K23 : Int32 × Int32 × MM → Prop) (K34 : Int32 × Int32 × MM → Prop) (Q : Int32 → MM → Prop) : Prop :=
  K34 (p4, (p5 + 1), μ)
def G12_read_L34  (p1 : Int32) (p2 : Int32) (p3 : Int32) (K23 : Int32 × Int32 × MM → Prop) (Q : Int32 → MM → Prop) (K34 : Int32 × Int32 × MM → Prop) (x : Int32 × Int32 × MM) : Prop :=
  (((gI x.2.2 358 12) ≤ x.2.1 → ((0 ≤ x.1 → G12_draws 100 x.2.2 (fun r31 μ30 => vp_in x.1 96 ∧ vp_in (gI μ30 367 x.1.toNatClampNeg) 24 ∧ Bd (gI μ30 366 ((gI μ30 367 x.1.toNatClampNeg).toNatClampNeg)) fun y34 => vp_in x.1 96 ∧ G12_countsTill (gI μ30 367 x.1.toNatClampNeg) μ30 (fun μ36 => vp_in y34 13 ∧ (((gI μ36 378 y34.toNatClampNeg) ≤ 0 → G12_read_J163 p1 p2 p3 x.1 x.1 μ36 K23 Q) ∧ (¬ ((gI μ36 378 y34.toNatClampNeg) ≤ 0) → G12_worked y34 x.1 μ36 (fun r48 μ47 => ((r48 ≤ r31 → G12_read_J163 p1 p2 p3 x.1 x.1 μ47 K23 Q) ∧ (¬ (r48 ≤ r31) → G12_read_J164 p1 p2 p3 x.1 1 x.1 μ47 K23 Q)))))))) ∧ (¬ (0 ≤ x.1) → Q p2 x.2.2))) ∧ (¬ ((gI x.2.2 358 12) ≤ x.2.1) → vp_in x.2.1 96 ∧ ((¬ (gI x.2.2 373 x.2.1.toNatClampNeg) = 0 → G12_read_J80 p1 p2 p3 x.1 x.2.1 x.2.2 K23 K34 Q) ∧ ((gI x.2.2 373 x.2.1.toNatClampNeg) = 0 → ((x.1 < 0 → K34 (x.2.1, (x.2.1 + 1), x.2.2)) ∧ (¬ (x.1 < 0) → vp_in x.2.1 96 ∧ vp_in x.1 96 ∧ (((gI x.2.2 372 x.1.toNatClampNeg) ≤ (gI x.2.2 372 x.2.1.toNatClampNeg) → G12_read_J80 p1 p2 p3 x.1 x.2.1 x.2.2 K23 K34 Q) ∧ (¬ ((gI x.2.2 372 x.1.toNatClampNeg) ≤ (gI x.2.2 372 x.2.1.toNatClampNeg)) → K34 (x.2.1, (x.2.1 + 1), x.2.2)))))))))
def G12_read_L23  (p1 : Int32)  (Q : Int32 → MM → Prop) (K23 : Int32 × Int32 × MM → Prop) (x : Int32 × Int32 × MM) : Prop :=
  ((p1 ≤ x.2.1 → Q x.1 x.2.2) ∧ (¬ (p1 ≤ x.2.1) → Lp (G12_read_L34 p1 x.1 x.2.1 K23 Q) ((-1), 0, x.2.2)))
def G12_read (v1 : Int32) (μ : MM) (Q : Int32 → MM → Prop) : Prop :=
  Bd (sI μ 358 0 0) fun μ23 => G12_in (v1.toInt64) 0 96 μ23 (fun r25 μ24 => ((¬ r25 = 0 → Lp (G12_read_L23 v1 Q) (0, 0, μ24)) ∧ (r25 = 0 → Q (-1) μ24)))
def G12_ring (v1 : Int32) (v2 : Int32) (μ : MM) (Q : Int32 → MM → Prop) : Prop :=
  Bd (sI μ 358 0 0) fun μ9 => G12_isLetter v1 μ9 (fun r11 μ10 => ((r11 = 0 → Q 0 μ10) ∧ (¬ (r11 = 0) → vp_in v1 96 ∧ (((gI μ10 373 v1.toNatClampNeg) = 0 → vp_in v1 96 ∧ Bd (sI μ10 373 v1.toNatClampNeg (vp_nar .boolean 1)) fun μ16 => vp_in v1 96 ∧ Bd (sI μ16 374 v1.toNatClampNeg (vp_nar .boolean v2)) fun μ18 => Q 1 μ18) ∧ (¬ ((gI μ10 373 v1.toNatClampNeg) = 0) → Q 0 μ10)))))
def G12_box_J149  (p1 : Int32) (p2 : Int32) (p4 : Int32) (p5 : Int32) (p6 : Int32) (p7 : Int32) (q0 : Int32) (q1 : Int32) (μ : MM) (K46 : Int32 × Int32 × Int32 × MM → Prop) (Q : Int32 → MM → Prop) : Prop :=
  vp_in q1 96 ∧ Bd (sI μ 374 q1.toNatClampNeg (vp_nar .boolean q0)) fun μ28 => K46 (p5, (p6 + 1), (p7 + 1), μ28)
def G12_box_J98  (p1 : Int32) (p2 : Int32) (p4 : Int32) (p5 : Int32) (p6 : Int32) (p7 : Int32) (q0 : Int32) (μ : MM) (K46 : Int32 × Int32 × Int32 × MM → Prop) (Q : Int32 → MM → Prop) : Prop :=
  Bd (p5 + p4) fun y20 => vp_in p7 96 ∧ ((¬ (gI μ 373 p7.toNatClampNeg) = 0 → K46 (y20, p6, (p7 + 1), μ)) ∧ ((gI μ 373 p7.toNatClampNeg) = 0 → ((0 ≤ q0 → vp_in p7 96 ∧ Bd (sI μ 373 p7.toNatClampNeg (vp_nar .boolean 1)) fun μ25 => ((q0 ≤ 0 → G12_box_J149 p1 p2 p4 y20 p6 p7 0 p7 μ25 K46 Q) ∧ (¬ (q0 ≤ 0) → G12_box_J149 p1 p2 p4 y20 p6 p7 1 p7 μ25 K46 Q))) ∧ (¬ (0 ≤ q0) → K46 (y20, p6, (p7 + 1), μ)))))
def G12_box_J66  (p1 : Int32) (p2 : Int32) (p4 : Int32) (p5 : Int32) (p6 : Int32) (p7 : Int32) (μ : MM) (K46 : Int32 × Int32 × Int32 × MM → Prop) (Q : Int32 → MM → Prop) : Prop :=
  ((¬ p1 = 3 → ((¬ p1 = 0 → ((¬ p1 = 1 → G12_box_J98 p1 p2 p4 p5 p6 p7 p5 μ K46 Q) ∧ (p1 = 1 → G12_box_J98 p1 p2 p4 p5 p6 p7 (p5.toInt16.toInt32) μ K46 Q))) ∧ (p1 = 0 → G12_box_J98 p1 p2 p4 p5 p6 p7 (p5.toInt8.toInt32) μ K46 Q))) ∧ (p1 = 3 → G12_box_J98 p1 p2 p4 p5 p6 p7 0 μ K46 Q))
def G12_box_L46  (p1 : Int32) (p2 : Int32) (p4 : Int32)  (Q : Int32 → MM → Prop) (K46 : Int32 × Int32 × Int32 × MM → Prop) (x : Int32 × Int32 × Int32 × MM) : Prop :=
  (((gI x.2.2.2 358 12) ≤ x.2.2.1 → Q x.2.1 x.2.2.2) ∧ (¬ ((gI x.2.2.2 358 12) ≤ x.2.2.1) → ((p1 = 3 → G12_box_J66 p1 p2 p4 x.1 x.2.1 x.2.2.1 x.2.2.2 K46 Q) ∧ (¬ (p1 = 3) → ((p2 ≤ x.2.2.1 → Q x.2.1 x.2.2.2) ∧ (¬ (p2 ≤ x.2.2.1) → G12_box_J66 p1 p2 p4 x.1 x.2.1 x.2.2.1 x.2.2.2 K46 Q))))))
def G12_box (v1 : Int32) (v2 : Int32) (v3 : Int32) (v4 : Int32) (μ : MM) (Q : Int32 → MM → Prop) : Prop :=
  Bd (sI μ 358 0 0) fun μ9 => G12_in (v1.toInt64) 0 3 μ9 (fun r11 μ10 => ((r11 = 0 → Q (-1) μ10) ∧ (¬ (r11 = 0) → ((v2 ≤ 96 → ((v1 = 3 → Lp (G12_box_L46 v1 v2 v4 Q) (v3, 0, 0, μ10)) ∧ (¬ (v1 = 3) → ((0 ≤ v2 → Lp (G12_box_L46 v1 v2 v4 Q) (v3, 0, 0, μ10)) ∧ (¬ (0 ≤ v2) → Q (-2) μ10))))) ∧ (¬ (v2 ≤ 96) → Q (-1) μ10)))))
def G12_after (v1 : Int32) (v2 : Int32) (μ : MM) (Q : Int32 → MM → Prop) : Prop :=
  Bd (sI μ 358 0 0) fun μ10 => G12_isLetter v1 μ10 (fun r12 μ11 => ((r12 = 0 → Q (-1) μ11) ∧ (¬ (r12 = 0) → vp_in v1 96 ∧ (((gI μ11 374 v1.toNatClampNeg) = 0 → Q (-1) μ11) ∧ (¬ ((gI μ11 374 v1.toNatClampNeg) = 0) → G12_in (v2.toInt64) 0 2 μ11 (fun r17 μ16 => ((¬ r17 = 0 → vp_in v1 96 ∧ Bd (gI μ16 375 v1.toNatClampNeg) fun y20 => vp_in v1 96 ∧ Bd (sI μ16 375 v1.toNatClampNeg v2) fun μ22 => Q y20 μ22) ∧ (r17 = 0 → Q (-1) μ16))))))))
def G12_seed (v1 : Int32) (μ : MM) (Q : Int32 → MM → Prop) : Prop :=
  Bd (sI μ 358 0 0) fun μ3 => Bd (gI μ3 358 22) fun y4 => Bd (sI μ3 358 22 v1) fun μ5 => Q y4 μ5
def G12_isFilter_J33   (μ : MM)  (Q : Int32 → MM → Prop) : Prop :=
  Q 0 μ
def G12_isFilter (v1 : Int32) (μ : MM) (Q : Int32 → MM → Prop) : Prop :=
  ((v1 = (-1) → Q 1 μ) ∧ (¬ (v1 = (-1)) → G12_in (v1.toInt64) 0 5 μ (fun r6 μ5 => ((r6 = 0 → G12_isFilter_J33 μ5 Q) ∧ (¬ (r6 = 0) → vp_in (6 + v1) 13 ∧ (((gI μ5 378 ((6 + v1).toNatClampNeg)) ≤ 0 → G12_isFilter_J33 μ5 Q) ∧ (¬ ((gI μ5 378 ((6 + v1).toNatClampNeg)) ≤ 0) → Q 1 μ5)))))))
def G12_passes_J29   (μ : MM)  (Q : Int32 → MM → Prop) : Prop :=
  Q 0 μ
def G12_passes (v1 : Int32) (v2 : Int32) (μ : MM) (Q : Int32 → MM → Prop) : Prop :=
  vp_in v2 96 ∧ (((gI μ 373 v2.toNatClampNeg) = 0 → G12_passes_J29 μ Q) ∧ (¬ ((gI μ 373 v2.toNatClampNeg) = 0) → ((v1 < 0 → Q 1 μ) ∧ (¬ (v1 < 0) → G12_worked (6 + v1) v2 μ (fun r8 μ7 => ((r8 = 0 → G12_passes_J29 μ7 Q) ∧ (¬ (r8 = 0) → Q 1 μ7)))))))
def G12_peopleOf (v1 : Int32) (μ : MM) (Q : Int32 → MM → Prop) : Prop :=
  vp_in v1 96 ∧ vp_in (gI μ 368 v1.toNatClampNeg) 12 ∧ Q (gI μ 360 ((gI μ 368 v1.toNatClampNeg).toNatClampNeg)) μ
def G12_counts_L29  (p1 : Int32) (p2 : Int32)  (Q : MM → Prop) (K29 : Int32 × MM → Prop) (x : Int32 × MM) : Prop :=
  (((gI x.2 358 12) ≤ x.1 → Q x.2) ∧ (¬ ((gI x.2 358 12) ≤ x.1) → vp_in x.1 96 ∧ (((gI x.2 367 x.1.toNatClampNeg) = p2 → K29 ((x.1 + 1), x.2)) ∧ (¬ ((gI x.2 367 x.1.toNatClampNeg) = p2) → G12_passes p1 x.1 x.2 (fun r26 μ25 => ((r26 = 0 → K29 ((x.1 + 1), μ25)) ∧ (¬ (r26 = 0) → G12_peopleOf x.1 μ25 (fun r29 μ28 => vp_in r29 2 ∧ vp_in r29 2 ∧ Bd (sI μ28 381 r29.toNatClampNeg ((gI μ28 381 r29.toNatClampNeg) + 1)) fun μ32 => G12_peopleOf x.1 μ32 (fun r34 μ33 => vp_in r34 2 ∧ vp_in x.1 96 ∧ G12_flag (gI μ33 374 x.1.toNatClampNeg) μ33 (fun r38 μ37 => vp_in r34 2 ∧ Bd (sI μ37 382 r34.toNatClampNeg ((gI μ33 382 r34.toNatClampNeg) + r38)) fun μ40 => K29 ((x.1 + 1), μ40)))))))))))
def G12_counts_L2  (p1 : Int32) (p2 : Int32)  (Q : MM → Prop) (K2 : Int32 × MM → Prop) (x : Int32 × MM) : Prop :=
  ((2 ≤ x.1 → Lp (G12_counts_L29 p1 p2 Q) (0, x.2)) ∧ (¬ (2 ≤ x.1) → vp_in x.1 2 ∧ Bd (sI x.2 381 x.1.toNatClampNeg 0) fun μ42 => vp_in x.1 2 ∧ Bd (sI μ42 382 x.1.toNatClampNeg 0) fun μ44 => K2 ((x.1 + 1), μ44)))
def G12_counts (v1 : Int32) (v2 : Int32) (μ : MM) (Q : MM → Prop) : Prop :=
  Lp (G12_counts_L2 v1 v2 Q) (0, μ)
def G12_share (v1 : Int32) (μ : MM) (Q : Int32 → MM → Prop) : Prop :=
  Bd (sI μ 358 0 0) fun μ15 => G12_isFilter v1 μ15 (fun r17 μ16 => ((¬ r17 = 0 → G12_counts v1 (-1) μ16 (fun μ19 => Bd (sI μ19 358 1 0) fun μ20 => ((((gI μ20 381 0) + (gI μ20 381 1)) ≤ 0 → Q ((gI μ20 381 0) + (gI μ20 381 1)) μ20) ∧ (¬ (((gI μ20 381 0) + (gI μ20 381 1)) ≤ 0) → G12_entersFraction (((gI μ20 382 0) + (gI μ20 382 1)).toInt64) (((gI μ20 381 0) + (gI μ20 381 1)).toInt64) μ20 (fun μ22 => Q ((gI μ22 381 0) + (gI μ22 381 1)) μ22))))) ∧ (r17 = 0 → Q (-1) μ16)))
def G12_areBoth_J22   (μ : MM)  (Q : Int32 → MM → Prop) : Prop :=
  Q 0 μ
def G12_areBoth  (μ : MM) (Q : Int32 → MM → Prop) : Prop :=
  (((gI μ 381 0) ≤ 0 → G12_areBoth_J22 μ Q) ∧ (¬ ((gI μ 381 0) ≤ 0) → (((gI μ 381 1) ≤ 0 → G12_areBoth_J22 μ Q) ∧ (¬ ((gI μ 381 1) ≤ 0) → Q 1 μ))))
def G12_aside (v1 : Int32) (μ : MM) (Q : Int32 → MM → Prop) : Prop :=
  Bd (sI μ 358 0 0) fun μ23 => G12_isFilter v1 μ23 (fun r25 μ24 => ((¬ r25 = 0 → G12_counts v1 (-1) μ24 (fun μ27 => G12_areBoth μ27 (fun r29 μ28 => ((¬ r29 = 0 → Bd (sI μ28 358 1 0) fun μ31 => G12_entersFraction ((((gI μ31 382 0) * (gI μ31 381 1)) - ((gI μ31 382 1) * (gI μ31 381 0))).toInt64) (((gI μ31 381 0).toInt64) * ((gI μ31 381 1).toInt64)) μ31 (fun μ32 => G12_enters ((gI μ32 381 0).toInt64) μ32 (fun μ33 => G12_enters ((gI μ33 382 0).toInt64) μ33 (fun μ34 => G12_enters ((gI μ34 381 1).toInt64) μ34 (fun μ35 => G12_enters ((gI μ35 382 1).toInt64) μ35 (fun μ36 => Q 0 μ36)))))) ∧ (r29 = 0 → Q (-2) μ28))))) ∧ (r25 = 0 → Q (-1) μ24)))
def G12_choices_L16  (p0 : Int32) (p1 : Int32)  (Q : Int64 → MM → Prop) (K16 : Int64 × Int32 × MM → Prop) (x : Int64 × Int32 × MM) : Prop :=
  ((p1 < x.2.1 → Q x.1 x.2.2) ∧ (¬ (p1 < x.2.1) → ¬ (x.2.1.toInt64) = 0 ∧ Bd ((x.1 * (((p0 - p1) + x.2.1).toInt64)) / (x.2.1.toInt64)) fun y6 => K16 (y6, (x.2.1 + 1), x.2.2)))
def G12_choices (v0 : Int32) (v1 : Int32) (μ : MM) (Q : Int64 → MM → Prop) : Prop :=
  ((v1 < 0 → Q 0 μ) ∧ (¬ (v1 < 0) → ((v1 ≤ v0 → Lp (G12_choices_L16 v0 v1 Q) (1, 1, μ)) ∧ (¬ (v1 ≤ v0) → Q 0 μ))))
def G12_odds_J380  (p2 : Int32) (p3 : Int32) (p6 : Int64) (p8 : Int32) (q0 : Int64) (μ : MM) (K313 : Int64 × Int64 × Int32 × MM → Prop) (Q : Int32 → MM → Prop) : Prop :=
  Bd (q0 + 0) fun y54 => K313 (y54, p6, (p8 + 1), μ)
def G12_odds_L313  (p2 : Int32) (p3 : Int32)  (Q : Int32 → MM → Prop) (K313 : Int64 × Int64 × Int32 × MM → Prop) (x : Int64 × Int64 × Int32 × MM) : Prop :=
  ((192 ≤ x.2.2.1 → Bd (sI x.2.2.2 358 1 0) fun μ47 => G12_entersFraction x.1 x.2.1 μ47 (fun μ48 => Q 0 μ48)) ∧ (¬ (192 ≤ x.2.2.1) → vp_in x.2.2.1 192 ∧ Bd (x.2.1 + (gJ x.2.2.2 383 x.2.2.1.toNatClampNeg)) fun y50 => ((¬ p2 = 0 → ((¬ p2 = 1 → ((¬ x.2.2.1 = p3 → G12_odds_J380 p2 p3 y50 x.2.2.1 x.1 x.2.2.2 K313 Q) ∧ (x.2.2.1 = p3 → vp_in x.2.2.1 192 ∧ Bd (x.1 + (gJ x.2.2.2 383 x.2.2.1.toNatClampNeg)) fun y56 => K313 (y56, y50, (x.2.2.1 + 1), x.2.2.2)))) ∧ (p2 = 1 → ((x.2.2.1 < p3 → G12_odds_J380 p2 p3 y50 x.2.2.1 x.1 x.2.2.2 K313 Q) ∧ (¬ (x.2.2.1 < p3) → vp_in x.2.2.1 192 ∧ Bd (x.1 + (gJ x.2.2.2 383 x.2.2.1.toNatClampNeg)) fun y59 => K313 (y59, y50, (x.2.2.1 + 1), x.2.2.2)))))) ∧ (p2 = 0 → ((p3 < x.2.2.1 → G12_odds_J380 p2 p3 y50 x.2.2.1 x.1 x.2.2.2 K313 Q) ∧ (¬ (p3 < x.2.2.1) → vp_in x.2.2.1 192 ∧ Bd (x.1 + (gJ x.2.2.2 383 x.2.2.1.toNatClampNeg)) fun y62 => K313 (y62, y50, (x.2.2.1 + 1), x.2.2.2)))))))
def G12_odds_L268  (p1 : Int32) (p2 : Int32) (p3 : Int32) (p4 : Int32) (K68 : Int32 × Int32 × MM → Prop) (Q : Int32 → MM → Prop) (K268 : Int32 × MM → Prop) (x : Int32 × MM) : Prop :=
  ((192 ≤ x.1 → K68 (p3, (p4 + 1), x.2)) ∧ (¬ (192 ≤ x.1) → vp_in x.1 192 ∧ vp_in x.1 192 ∧ Bd (sJ x.2 383 x.1.toNatClampNeg (gJ x.2 384 x.1.toNatClampNeg)) fun μ68 => K268 ((x.1 + 1), μ68)))
def G12_odds_L194  (p1 : Int32) (p2 : Int32) (p3 : Int32) (p4 : Int32) (p5 : Int32) (p6 : Int32) (p7 : Int32) (p8 : Int32) (K68 : Int32 × Int32 × MM → Prop) (K178 : Int32 × MM → Prop) (Q : Int32 → MM → Prop) (K194 : Int64 × Int32 × MM → Prop) (x : Int64 × Int32 × MM) : Prop :=
  ((4 < x.2.1 → vp_in p8 192 ∧ Bd (sJ x.2.2 384 p8.toNatClampNeg x.1) fun μ71 => K178 ((p8 + 1), μ71)) ∧ (¬ (4 < x.2.1) → ((p8 < x.2.1 → vp_in p8 192 ∧ Bd (sJ x.2.2 384 p8.toNatClampNeg x.1) fun μ74 => K178 ((p8 + 1), μ74)) ∧ (¬ (p8 < x.2.1) → vp_in (p8 - x.2.1) 192 ∧ G12_choices p7 x.2.1 x.2.2 (fun r77 μ76 => G12_choices (p5 - p7) (p6 - x.2.1) μ76 (fun r79 μ78 => Bd (x.1 + (((gJ x.2.2 383 ((p8 - x.2.1).toNatClampNeg)) * r77) * r79)) fun y80 => K194 (y80, (x.2.1 + 1), μ78)))))))
def G12_odds_L178  (p1 : Int32) (p2 : Int32) (p3 : Int32) (p4 : Int32) (p5 : Int32) (p6 : Int32) (p7 : Int32) (K68 : Int32 × Int32 × MM → Prop) (Q : Int32 → MM → Prop) (K178 : Int32 × MM → Prop) (x : Int32 × MM) : Prop :=
  ((192 ≤ x.1 → Lp (G12_odds_L268 p1 p2 p3 p4 K68 Q) (0, x.2)) ∧ (¬ (192 ≤ x.1) → Lp (G12_odds_L194 p1 p2 p3 p4 p5 p6 p7 x.1 K68 K178 Q) (0, 0, x.2)))
def G12_odds_L89  (p1 : Int32) (p2 : Int32) (p4 : Int32) (K68 : Int32 × Int32 × MM → Prop) (Q : Int32 → MM → Prop) (K89 : Int32 × Int32 × Int32 × Int32 × Int32 × MM → Prop) (x : Int32 × Int32 × Int32 × Int32 × Int32 × MM) : Prop :=
  (((gI x.2.2.2.2.2 358 12) ≤ x.2.2.2.2.1 → Lp (G12_odds_L178 p1 p2 x.1 p4 x.2.1 x.2.2.1 x.2.2.2.1 K68 Q) (0, x.2.2.2.2.2)) ∧ (¬ ((gI x.2.2.2.2.2 358 12) ≤ x.2.2.2.2.1) → vp_in x.2.2.2.2.1 96 ∧ ((¬ (gI x.2.2.2.2.2 367 x.2.2.2.2.1.toNatClampNeg) = p4 → K89 (x.1, x.2.1, x.2.2.1, x.2.2.2.1, (x.2.2.2.2.1 + 1), x.2.2.2.2.2)) ∧ ((gI x.2.2.2.2.2 367 x.2.2.2.2.1.toNatClampNeg) = p4 → G12_passes p1 x.2.2.2.2.1 x.2.2.2.2.2 (fun r84 μ83 => ((r84 = 0 → K89 (x.1, x.2.1, x.2.2.1, x.2.2.2.1, (x.2.2.2.2.1 + 1), μ83)) ∧ (¬ (r84 = 0) → G12_peopleOf x.2.2.2.2.1 μ83 (fun r87 μ86 => Bd (x.2.2.1 + r87) fun y88 => vp_in x.2.2.2.2.1 96 ∧ G12_flag (gI μ86 374 x.2.2.2.2.1.toNatClampNeg) μ86 (fun r91 μ90 => Bd (x.2.2.2.1 + r91) fun y92 => G12_peopleOf x.2.2.2.2.1 μ90 (fun r94 μ93 => vp_in x.2.2.2.2.1 96 ∧ G12_flag (gI μ93 374 x.2.2.2.2.1.toNatClampNeg) μ93 (fun r97 μ96 => Bd (x.1 + (r94 * r97)) fun y98 => K89 (y98, (x.2.1 + 1), y88, y92, (x.2.2.2.2.1 + 1), μ96))))))))))))
def G12_odds_L68  (p1 : Int32) (p2 : Int32)  (Q : Int32 → MM → Prop) (K68 : Int32 × Int32 × MM → Prop) (x : Int32 × Int32 × MM) : Prop :=
  (((gI x.2.2 358 8) ≤ x.2.1 → Lp (G12_odds_L313 p2 x.1 Q) (0, 0, 0, x.2.2)) ∧ (¬ ((gI x.2.2 358 8) ≤ x.2.1) → Lp (G12_odds_L89 p1 p2 x.2.1 K68 Q) (x.1, 0, 0, 0, 0, x.2.2)))
def G12_odds_J52  (p1 : Int32) (p2 : Int32) (p3 : Int32) (q0 : Int32) (q1 : Int32) (μ : MM) (K29 : Int32 × MM → Prop) (Q : Int32 → MM → Prop) : Prop :=
  G12_flag q0 μ (fun r101 μ100 => vp_in q1 192 ∧ Bd (sJ μ100 383 q1.toNatClampNeg (r101.toInt64)) fun μ103 => K29 ((p3 + 1), μ103))
def G12_odds_L29  (p1 : Int32) (p2 : Int32)  (Q : Int32 → MM → Prop) (K29 : Int32 × MM → Prop) (x : Int32 × MM) : Prop :=
  ((192 ≤ x.1 → Lp (G12_odds_L68 p1 p2 Q) (0, 0, x.2)) ∧ (¬ (192 ≤ x.1) → ((¬ x.1 = 0 → G12_odds_J52 p1 p2 x.1 0 x.1 x.2 K29 Q) ∧ (x.1 = 0 → G12_odds_J52 p1 p2 x.1 1 x.1 x.2 K29 Q))))
def G12_odds (v1 : Int32) (v2 : Int32) (μ : MM) (Q : Int32 → MM → Prop) : Prop :=
  Bd (sI μ 358 0 0) fun μ37 => G12_isFilter v1 μ37 (fun r39 μ38 => ((r39 = 0 → Q (-1) μ38) ∧ (¬ (r39 = 0) → G12_in (v2.toInt64) 0 2 μ38 (fun r42 μ41 => ((¬ r42 = 0 → Lp (G12_odds_L29 v1 v2 Q) (0, μ41)) ∧ (r42 = 0 → Q (-1) μ41))))))
def G12_readMany_L4    (Q : Int32 → MM → Prop) (K4 : Int32 × Int32 × MM → Prop) (x : Int32 × Int32 × MM) : Prop :=
  (((gI x.2.2 358 12) ≤ x.2.1 → Q x.1 x.2.2) ∧ (¬ ((gI x.2.2 358 12) ≤ x.2.1) → vp_in x.2.1 96 ∧ G12_flag (gI x.2.2 373 x.2.1.toNatClampNeg) x.2.2 (fun r7 μ6 => Bd (x.1 + r7) fun y8 => K4 (y8, (x.2.1 + 1), μ6))))
def G12_readMany  (μ : MM) (Q : Int32 → MM → Prop) : Prop :=
  Lp (G12_readMany_L4 Q) (0, 0, μ)
def G12_weighs_J223  (p1 : Int64) (p3 : Int64) (p14 : Int32) (p16 : Int64) (p18 : Int64) (p20 : Int64) (μ : MM) (K85 : Int32 × Int64 × Int64 × Int64 × Int64 × Int32 × MM → Prop) (Q : Int32 → MM → Prop) : Prop :=
  K85 (p14, p20, p18, p16, p18, (p14 + 1), μ)
def G12_weighs_J133  (p1 : Int64) (p3 : Int64) (p5 : Int32) (p6 : Int64) (p8 : Int64) (p10 : Int64) (p12 : Int64) (p14 : Int32) (q0 : Int32) (μ : MM) (K85 : Int32 × Int64 × Int64 × Int64 × Int64 × Int32 × MM → Prop) (Q : Int32 → MM → Prop) : Prop :=
  ((¬ q0 = 0 → Bd ((((gI μ 382 0) * (gI μ 381 1)) - ((gI μ 382 1) * (gI μ 381 0))).toInt64) fun y42 => Bd (((gI μ 381 0).toInt64) * ((gI μ 381 1).toInt64)) fun y43 => Bd (if 0 < ((y42 * p3) - (p1 * y43)) then ((y42 * p3) - (p1 * y43)) else -((y42 * p3) - (p1 * y43))) fun y44 => ((p5 < 0 → G12_weighs_J223 p1 p3 p14 y42 y43 y44 μ K85 Q) ∧ (¬ (p5 < 0) → (((lg_cmp (y44 * p8) (p6 * y43)) ≤ 0 → K85 (p5, p6, p8, p10, p12, (p14 + 1), μ)) ∧ (¬ ((lg_cmp (y44 * p8) (p6 * y43)) ≤ 0) → G12_weighs_J223 p1 p3 p14 y42 y43 y44 μ K85 Q))))) ∧ (q0 = 0 → K85 (p5, p6, p8, p10, p12, (p14 + 1), μ)))
def G12_weighs_J132  (p1 : Int64) (p3 : Int64) (p5 : Int32) (p6 : Int64) (p8 : Int64) (p10 : Int64) (p12 : Int64) (p14 : Int32) (μ : MM) (K85 : Int32 × Int64 × Int64 × Int64 × Int64 × Int32 × MM → Prop) (Q : Int32 → MM → Prop) : Prop :=
  G12_weighs_J133 p1 p3 p5 p6 p8 p10 p12 p14 0 μ K85 Q
def G12_weighs_L85  (p1 : Int64) (p3 : Int64)  (Q : Int32 → MM → Prop) (K85 : Int32 × Int64 × Int64 × Int64 × Int64 × Int32 × MM → Prop) (x : Int32 × Int64 × Int64 × Int64 × Int64 × Int32 × MM) : Prop :=
  (((gI x.2.2.2.2.2.2 358 8) ≤ x.2.2.2.2.2.1 → ((x.1 < 0 → Q x.1 x.2.2.2.2.2.2) ∧ (¬ (x.1 < 0) → Bd (sI x.2.2.2.2.2.2 358 1 0) fun μ35 => G12_entersFraction x.2.2.2.1 x.2.2.2.2.1 μ35 (fun μ36 => Q x.1 μ36)))) ∧ (¬ ((gI x.2.2.2.2.2.2 358 8) ≤ x.2.2.2.2.2.1) → G12_counts (-1) x.2.2.2.2.2.1 x.2.2.2.2.2.2 (fun μ37 => G12_areBoth μ37 (fun r39 μ38 => ((r39 = 0 → G12_weighs_J132 p1 p3 x.1 x.2.1 x.2.2.1 x.2.2.2.1 x.2.2.2.2.1 x.2.2.2.2.2.1 μ38 K85 Q) ∧ (¬ (r39 = 0) → G12_readMany μ38 (fun r48 μ47 => ((r48 ≤ ((gI μ38 381 0) + (gI μ38 381 1)) → G12_weighs_J132 p1 p3 x.1 x.2.1 x.2.2.1 x.2.2.2.1 x.2.2.2.2.1 x.2.2.2.2.2.1 μ47 K85 Q) ∧ (¬ (r48 ≤ ((gI μ38 381 0) + (gI μ38 381 1))) → G12_weighs_J133 p1 p3 x.1 x.2.1 x.2.2.1 x.2.2.2.1 x.2.2.2.2.1 x.2.2.2.2.2.1 1 μ47 K85 Q)))))))))
def G12_weighs  (μ : MM) (Q : Int32 → MM → Prop) : Prop :=
  Bd (sI μ 358 0 0) fun μ26 => G12_counts (-1) (-1) μ26 (fun μ27 => G12_areBoth μ27 (fun r29 μ28 => ((¬ r29 = 0 → Bd ((((gI μ28 382 0) * (gI μ28 381 1)) - ((gI μ28 382 1) * (gI μ28 381 0))).toInt64) fun y31 => Bd (((gI μ28 381 0).toInt64) * ((gI μ28 381 1).toInt64)) fun y32 => Lp (G12_weighs_L85 y31 y32 Q) ((-2), 0, 1, 0, 1, 0, μ28)) ∧ (r29 = 0 → Q (-2) μ28))))
def G12_countsNames_J96  (p1 : Int32) (q0 : Int32) (q1 : Int32) (q2 : Int32) (μ : MM) (K30 : Int32 × MM → Prop) (Q : MM → Prop) : Prop :=
  G12_flag q0 μ (fun r34 μ33 => vp_in q2 12 ∧ Bd (sI μ33 386 q2.toNatClampNeg (q1 + r34)) fun μ36 => K30 ((p1 + 1), μ36))
def G12_countsNames_J95  (p1 : Int32) (q0 : Int32) (q1 : Int32) (μ : MM) (K30 : Int32 × MM → Prop) (Q : MM → Prop) : Prop :=
  G12_countsNames_J96 p1 0 q0 q1 μ K30 Q
def G12_countsNames_L30    (Q : MM → Prop) (K30 : Int32 × MM → Prop) (x : Int32 × MM) : Prop :=
  (((gI x.2 358 12) ≤ x.1 → Q x.2) ∧ (¬ ((gI x.2 358 12) ≤ x.1) → vp_in x.1 96 ∧ vp_in (gI x.2 368 x.1.toNatClampNeg) 12 ∧ vp_in x.1 96 ∧ G12_flag (gI x.2 373 x.1.toNatClampNeg) x.2 (fun r26 μ25 => vp_in (gI x.2 368 x.1.toNatClampNeg) 12 ∧ Bd (sI μ25 385 ((gI x.2 368 x.1.toNatClampNeg).toNatClampNeg) ((gI x.2 385 ((gI x.2 368 x.1.toNatClampNeg).toNatClampNeg)) + r26)) fun μ28 => vp_in x.1 96 ∧ vp_in (gI μ28 368 x.1.toNatClampNeg) 12 ∧ vp_in x.1 96 ∧ (((gI μ28 373 x.1.toNatClampNeg) = 0 → G12_countsNames_J95 x.1 (gI μ28 386 ((gI μ28 368 x.1.toNatClampNeg).toNatClampNeg)) (gI μ28 368 x.1.toNatClampNeg) μ28 K30 Q) ∧ (¬ ((gI μ28 373 x.1.toNatClampNeg) = 0) → vp_in x.1 96 ∧ (((gI μ28 374 x.1.toNatClampNeg) = 0 → G12_countsNames_J95 x.1 (gI μ28 386 ((gI μ28 368 x.1.toNatClampNeg).toNatClampNeg)) (gI μ28 368 x.1.toNatClampNeg) μ28 K30 Q) ∧ (¬ ((gI μ28 374 x.1.toNatClampNeg) = 0) → G12_countsNames_J96 x.1 1 (gI μ28 386 ((gI μ28 368 x.1.toNatClampNeg).toNatClampNeg)) (gI μ28 368 x.1.toNatClampNeg) μ28 K30 Q)))))))
def G12_countsNames_L2    (Q : MM → Prop) (K2 : Int32 × MM → Prop) (x : Int32 × MM) : Prop :=
  ((12 ≤ x.1 → Lp (G12_countsNames_L30 Q) (0, x.2)) ∧ (¬ (12 ≤ x.1) → vp_in x.1 12 ∧ Bd (sI x.2 385 x.1.toNatClampNeg 0) fun μ40 => vp_in x.1 12 ∧ Bd (sI μ40 386 x.1.toNatClampNeg 0) fun μ42 => K2 ((x.1 + 1), μ42)))
def G12_countsNames  (μ : MM) (Q : MM → Prop) : Prop :=
  Lp (G12_countsNames_L2 Q) (0, μ)
def G12_names (v1 : Int32) (μ : MM) (Q : Int32 → MM → Prop) : Prop :=
  Bd (sI μ 358 0 0) fun μ11 => G12_isName v1 μ11 (fun r13 μ12 => ((¬ r13 = 0 → G12_countsNames μ12 (fun μ15 => Bd (sI μ15 358 1 0) fun μ16 => vp_in v1 12 ∧ (((gI μ16 385 v1.toNatClampNeg) ≤ 0 → vp_in v1 12 ∧ Q (gI μ16 385 v1.toNatClampNeg) μ16) ∧ (¬ ((gI μ16 385 v1.toNatClampNeg) ≤ 0) → vp_in v1 12 ∧ vp_in v1 12 ∧ G12_entersFraction ((gI μ16 386 v1.toNatClampNeg).toInt64) ((gI μ16 385 v1.toNatClampNeg).toInt64) μ16 (fun μ22 => vp_in v1 12 ∧ Q (gI μ22 385 v1.toNatClampNeg) μ22))))) ∧ (r13 = 0 → Q (-1) μ12)))
def G12_drawn_J313  (p1 : Int64) (p4 : Int32) (p5 : Int64) (p7 : Int32) (p9 : Int32) (q0 : Int32) (q1 : Int32) (μ : MM) (K169 : Int32 × Int32 × Int32 × MM → Prop) (Q : Int32 → MM → Prop) : Prop :=
  G12_flag q0 μ (fun r46 μ45 => Bd (q1 + r46) fun y47 => K169 (p7, y47, (p9 + 1), μ45))
def G12_drawn_J312  (p1 : Int64) (p4 : Int32) (p5 : Int64) (p7 : Int32) (p9 : Int32) (q0 : Int32) (μ : MM) (K169 : Int32 × Int32 × Int32 × MM → Prop) (Q : Int32 → MM → Prop) : Prop :=
  G12_drawn_J313 p1 p4 p5 p7 p9 0 q0 μ K169 Q
def G12_drawn_J283  (p1 : Int64) (p4 : Int32) (p5 : Int64) (p7 : Int32) (p8 : Int32) (p9 : Int32) (p10 : Int32) (p11 : Int64) (μ : MM) (K169 : Int32 × Int32 × Int32 × MM → Prop) (Q : Int32 → MM → Prop) : Prop :=
  G12_flag p10 μ (fun r42 μ41 => Bd (p7 + r42) fun y43 => ((p10 = 0 → G12_drawn_J312 p1 p4 p5 y43 p9 p8 μ41 K169 Q) ∧ (¬ (p10 = 0) → ((0 < (lg_cmp p11 p5) → G12_drawn_J312 p1 p4 p5 y43 p9 p8 μ41 K169 Q) ∧ (¬ (0 < (lg_cmp p11 p5)) → G12_drawn_J313 p1 p4 p5 y43 p9 1 p8 μ41 K169 Q)))))
def G12_drawn_J274  (p1 : Int64) (p4 : Int32) (p5 : Int64) (p7 : Int32) (p8 : Int32) (p9 : Int32) (p10 : Int32) (p13 : Int32) (q0 : Int64) (q1 : Int64) (μ : MM) (K169 : Int32 × Int32 × Int32 × MM → Prop) (K203 : Int32 × Int64 × Int32 × MM → Prop) (Q : Int32 → MM → Prop) : Prop :=
  Bd (q1 + q0) fun y56 => K203 (p10, y56, (p13 + 1), μ)
def G12_drawn_J242  (p1 : Int64) (p4 : Int32) (p5 : Int64) (p7 : Int32) (p8 : Int32) (p9 : Int32) (p11 : Int64) (p13 : Int32) (q0 : Int32) (μ : MM) (K169 : Int32 × Int32 × Int32 × MM → Prop) (K203 : Int32 × Int64 × Int32 × MM → Prop) (Q : Int32 → MM → Prop) : Prop :=
  ((q0 = 0 → G12_drawn_J274 p1 p4 p5 p7 p8 p9 q0 p13 0 p11 μ K169 K203 Q) ∧ (¬ (q0 = 0) → vp_in p13 12 ∧ ¬ ((gI μ 385 p13.toNatClampNeg).toInt64) = 0 ∧ vp_in p13 12 ∧ G12_drawn_J274 p1 p4 p5 p7 p8 p9 q0 p13 ((p1 / ((gI μ 385 p13.toNatClampNeg).toInt64)) * ((gI μ 386 p13.toNatClampNeg).toInt64)) p11 μ K169 K203 Q))
def G12_drawn_L203  (p1 : Int64) (p4 : Int32) (p5 : Int64) (p7 : Int32) (p8 : Int32) (p9 : Int32) (K169 : Int32 × Int32 × Int32 × MM → Prop) (Q : Int32 → MM → Prop) (K203 : Int32 × Int64 × Int32 × MM → Prop) (x : Int32 × Int64 × Int32 × MM) : Prop :=
  (((gI x.2.2.2 358 3) ≤ x.2.2.1 → G12_drawn_J283 p1 p4 p5 p7 p8 p9 x.1 x.2.1 x.2.2.2 K169 Q) ∧ (¬ ((gI x.2.2.2 358 3) ≤ x.2.2.1) → ((x.1 = 0 → G12_drawn_J283 p1 p4 p5 p7 p8 p9 x.1 x.2.1 x.2.2.2 K169 Q) ∧ (¬ (x.1 = 0) → G12_has p9 x.2.2.1 x.2.2.2 (fun r51 μ50 => ((r51 = 0 → K203 (x.1, x.2.1, (x.2.2.1 + 1), μ50)) ∧ (¬ (r51 = 0) → vp_in x.2.2.1 12 ∧ (((gI μ50 385 x.2.2.1.toNatClampNeg) ≤ 0 → G12_drawn_J242 p1 p4 p5 p7 p8 p9 x.2.1 x.2.2.1 0 μ50 K169 K203 Q) ∧ (¬ ((gI μ50 385 x.2.2.1.toNatClampNeg) ≤ 0) → G12_drawn_J242 p1 p4 p5 p7 p8 p9 x.2.1 x.2.2.1 1 μ50 K169 K203 Q)))))))))
def G12_drawn_L169  (p1 : Int64) (p4 : Int32) (p5 : Int64)  (Q : Int32 → MM → Prop) (K169 : Int32 × Int32 × Int32 × MM → Prop) (x : Int32 × Int32 × Int32 × MM) : Prop :=
  (((1 <<< ((gI x.2.2.2 358 3) &&& 31)) ≤ x.2.2.1 → Bd (sI x.2.2.2 358 1 0) fun μ35 => G12_entersFraction (x.2.1.toInt64) (x.1.toInt64) μ35 (fun μ36 => Q 0 μ36)) ∧ (¬ ((1 <<< ((gI x.2.2.2 358 3) &&& 31)) ≤ x.2.2.1) → GJ6_bitCount_0f7a4 x.2.2.1 x.2.2.2 (fun r38 μ37 => ((¬ r38 = p4 → Lp (G12_drawn_L203 p1 p4 p5 x.1 x.2.1 x.2.2.1 K169 Q) (0, 0, 0, μ37)) ∧ (r38 = p4 → Lp (G12_drawn_L203 p1 p4 p5 x.1 x.2.1 x.2.2.1 K169 Q) (1, 0, 0, μ37))))))
def G12_drawn_J150  (p1 : Int64) (p4 : Int32) (p7 : Int32) (q0 : Int64) (μ : MM) (K96 : Int64 × Int32 × MM → Prop) (Q : Int32 → MM → Prop) : Prop :=
  Bd (q0 + 0) fun y62 => K96 (y62, (p7 + 1), μ)
def G12_drawn_L96  (p1 : Int64) (p4 : Int32)  (Q : Int32 → MM → Prop) (K96 : Int64 × Int32 × MM → Prop) (x : Int64 × Int32 × MM) : Prop :=
  (((gI x.2.2 358 3) ≤ x.2.1 → Lp (G12_drawn_L169 p1 p4 x.1 Q) (0, 0, 0, x.2.2)) ∧ (¬ ((gI x.2.2 358 3) ≤ x.2.1) → vp_in x.2.1 12 ∧ (((gI x.2.2 385 x.2.1.toNatClampNeg) ≤ 0 → G12_drawn_J150 p1 p4 x.2.1 x.1 x.2.2 K96 Q) ∧ (¬ ((gI x.2.2 385 x.2.1.toNatClampNeg) ≤ 0) → vp_in x.2.1 12 ∧ ((¬ (gI x.2.2 360 x.2.1.toNatClampNeg) = 1 → G12_drawn_J150 p1 p4 x.2.1 x.1 x.2.2 K96 Q) ∧ ((gI x.2.2 360 x.2.1.toNatClampNeg) = 1 → vp_in x.2.1 12 ∧ ¬ ((gI x.2.2 385 x.2.1.toNatClampNeg).toInt64) = 0 ∧ vp_in x.2.1 12 ∧ Bd (x.1 + ((p1 / ((gI x.2.2 385 x.2.1.toNatClampNeg).toInt64)) * ((gI x.2.2 386 x.2.1.toNatClampNeg).toInt64))) fun y68 => K96 (y68, (x.2.1 + 1), x.2.2)))))))
def G12_drawn_L19    (Q : Int32 → MM → Prop) (K19 : Int64 × Int32 × Int32 × Int32 × MM → Prop) (x : Int64 × Int32 × Int32 × Int32 × MM) : Prop :=
  (((gI x.2.2.2.2 358 3) ≤ x.2.2.2.1 → ((¬ x.2.1 = 0 → Lp (G12_drawn_L96 x.1 x.2.2.1 Q) (0, 0, x.2.2.2.2)) ∧ (x.2.1 = 0 → Q (-2) x.2.2.2.2))) ∧ (¬ ((gI x.2.2.2.2 358 3) ≤ x.2.2.2.1) → vp_in x.2.2.2.1 12 ∧ (((gI x.2.2.2.2 385 x.2.2.2.1.toNatClampNeg) ≤ 0 → K19 (x.1, x.2.1, x.2.2.1, (x.2.2.2.1 + 1), x.2.2.2.2)) ∧ (¬ ((gI x.2.2.2.2 385 x.2.2.2.1.toNatClampNeg) ≤ 0) → vp_in x.2.2.2.1 12 ∧ G12_common x.1 ((gI x.2.2.2.2 385 x.2.2.2.1.toNatClampNeg).toInt64) x.2.2.2.2 (fun r73 μ72 => ¬ r73 = 0 ∧ vp_in x.2.2.2.1 12 ∧ Bd ((x.1 / r73) * ((gI μ72 385 x.2.2.2.1.toNatClampNeg).toInt64)) fun y76 => vp_in x.2.2.2.1 12 ∧ Bd (x.2.2.1 + (gI μ72 360 x.2.2.2.1.toNatClampNeg)) fun y78 => K19 (y76, (x.2.1 + 1), y78, (x.2.2.2.1 + 1), μ72))))))
def G12_drawn  (μ : MM) (Q : Int32 → MM → Prop) : Prop :=
  Bd (sI μ 358 0 0) fun μ29 => G12_countsNames μ29 (fun μ30 => Lp (G12_drawn_L19 Q) (1, 0, 0, 0, μ30))
def G12_saysOf (v1 : Int32) (v2 : Int32) (μ : MM) (Q : Int32 → MM → Prop) : Prop :=
  ((¬ v1 = 0 → ((¬ v1 = 1 → ((¬ v1 = 2 → vp_in v2 12 ∧ Q (gI μ 363 v2.toNatClampNeg) μ) ∧ (v1 = 2 → vp_in v2 12 ∧ Q (gI μ 362 v2.toNatClampNeg) μ))) ∧ (v1 = 1 → vp_in v2 12 ∧ Q (gI μ 361 v2.toNatClampNeg) μ))) ∧ (v1 = 0 → vp_in v2 12 ∧ Q (gI μ 360 v2.toNatClampNeg) μ))
def G12_compares (v1 : Int32) (v2 : Int32) (μ : MM) (Q : Int32 → MM → Prop) : Prop :=
  vp_in v1 12 ∧ vp_in v2 12 ∧ vp_in v2 12 ∧ vp_in v1 12 ∧ GJ6_compare_7cf53 ((gI μ 386 v1.toNatClampNeg) * (gI μ 385 v2.toNatClampNeg)) ((gI μ 386 v2.toNatClampNeg) * (gI μ 385 v1.toNatClampNeg)) μ (fun r12 μ11 => Q r12 μ11)
def GJ6_signum_0f7a4 (v0 : Int32) (μ : MM) (Q : Int32 → MM → Prop) : Prop :=
  Q ((v0 >>> (31 &&& 31)) ||| (((-v0).toUInt32 >>> ((31 : Int32).toUInt32 &&& Int32.toUInt32 31)).toInt32)) μ
def G12_pairsOf_J137  (p1 : Int32) (p2 : Int32) (p3 : Int32) (q0 : Int32) (q1 : Int32) (μ : MM) (K17 : Int32 × MM → Prop) (K27 : Int32 × MM → Prop) (Q : MM → Prop) : Prop :=
  G12_flag q0 μ (fun r51 μ50 => Bd (sI μ50 358 44 (q1 + r51)) fun μ52 => K27 ((p3 + 1), μ52))
def G12_pairsOf_J115  (p1 : Int32) (p2 : Int32) (p3 : Int32) (p4 : Int32) (q0 : Int32) (q1 : Int32) (μ : MM) (K17 : Int32 × MM → Prop) (K27 : Int32 × MM → Prop) (Q : MM → Prop) : Prop :=
  G12_flag q0 μ (fun r47 μ46 => Bd (sI μ46 358 43 (q1 + r47)) fun μ48 => ((¬ p4 = 0 → G12_pairsOf_J137 p1 p2 p3 0 (gI μ48 358 44) μ48 K17 K27 Q) ∧ (p4 = 0 → G12_pairsOf_J137 p1 p2 p3 1 (gI μ48 358 44) μ48 K17 K27 Q)))
def G12_pairsOf_J93  (p1 : Int32) (p2 : Int32) (p3 : Int32) (p4 : Int32) (q0 : Int32) (q1 : Int32) (μ : MM) (K17 : Int32 × MM → Prop) (K27 : Int32 × MM → Prop) (Q : MM → Prop) : Prop :=
  G12_flag q0 μ (fun r43 μ42 => Bd (sI μ42 358 42 (q1 + r43)) fun μ44 => ((0 ≤ p4 → G12_pairsOf_J115 p1 p2 p3 p4 0 (gI μ44 358 43) μ44 K17 K27 Q) ∧ (¬ (0 ≤ p4) → G12_pairsOf_J115 p1 p2 p3 p4 1 (gI μ44 358 43) μ44 K17 K27 Q)))
def G12_pairsOf_L27  (p1 : Int32) (p2 : Int32) (K17 : Int32 × MM → Prop) (Q : MM → Prop) (K27 : Int32 × MM → Prop) (x : Int32 × MM) : Prop :=
  ((p2 ≤ x.1 → K17 ((p2 + 1), x.2)) ∧ (¬ (p2 ≤ x.1) → vp_in p2 12 ∧ (((gI x.2 385 p2.toNatClampNeg) = 0 → K27 ((x.1 + 1), x.2)) ∧ (¬ ((gI x.2 385 p2.toNatClampNeg) = 0) → vp_in x.1 12 ∧ ((¬ (gI x.2 385 x.1.toNatClampNeg) = 0 → G12_saysOf p1 p2 x.2 (fun r33 μ32 => G12_saysOf p1 x.1 μ32 (fun r35 μ34 => GJ6_signum_0f7a4 (r33 - r35) μ34 (fun r37 μ36 => G12_compares p2 x.1 μ36 (fun r39 μ38 => Bd (r37 * r39) fun y40 => ((y40 ≤ 0 → G12_pairsOf_J93 p1 p2 x.1 y40 0 (gI μ38 358 42) μ38 K17 K27 Q) ∧ (¬ (y40 ≤ 0) → G12_pairsOf_J93 p1 p2 x.1 y40 1 (gI μ38 358 42) μ38 K17 K27 Q))))))) ∧ ((gI x.2 385 x.1.toNatClampNeg) = 0 → K27 ((x.1 + 1), x.2)))))))
def G12_pairsOf_L17  (p1 : Int32)  (Q : MM → Prop) (K17 : Int32 × MM → Prop) (x : Int32 × MM) : Prop :=
  (((gI x.2 358 3) ≤ x.1 → Q x.2) ∧ (¬ ((gI x.2 358 3) ≤ x.1) → Lp (G12_pairsOf_L27 p1 x.1 K17 Q) (0, x.2)))
def G12_pairsOf (v1 : Int32) (μ : MM) (Q : MM → Prop) : Prop :=
  Bd (sI μ 358 42 0) fun μ23 => Bd (sI μ23 358 43 0) fun μ24 => Bd (sI μ24 358 44 0) fun μ25 => Lp (G12_pairsOf_L17 v1 Q) (0, μ25)
def G12_goes (v1 : Int32) (μ : MM) (Q : Int32 → MM → Prop) : Prop :=
  Bd (sI μ 358 0 0) fun μ9 => G12_in (v1.toInt64) 0 3 μ9 (fun r11 μ10 => ((¬ r11 = 0 → G12_countsNames μ10 (fun μ13 => G12_pairsOf v1 μ13 (fun μ14 => Bd (sI μ14 358 1 0) fun μ15 => G12_enters ((gI μ15 358 43).toInt64) μ15 (fun μ16 => G12_enters ((gI μ16 358 44).toInt64) μ16 (fun μ17 => Q (gI μ17 358 42) μ17))))) ∧ (r11 = 0 → Q (-1) μ10)))
def G12_says_J52  (p3 : Int32) (p4 : Int32) (μ : MM) (K15 : Int32 × Int32 × Int32 × MM → Prop) (Q : Int32 → MM → Prop) : Prop :=
  K15 (p3, p4, (p3 + 1), μ)
def G12_says_L15    (Q : Int32 → MM → Prop) (K15 : Int32 × Int32 × Int32 × MM → Prop) (x : Int32 × Int32 × Int32 × MM) : Prop :=
  ((4 ≤ x.2.2.1 → Bd (sI x.2.2.2 358 1 0) fun μ9 => G12_enters (x.2.1.toInt64) μ9 (fun μ10 => Q x.1 μ10)) ∧ (¬ (4 ≤ x.2.2.1) → G12_pairsOf x.2.2.1 x.2.2.2 (fun μ11 => Bd ((gI μ11 358 42) - (gI μ11 358 43)) fun y12 => ((x.2.2.1 = 0 → G12_says_J52 x.2.2.1 y12 μ11 K15 Q) ∧ (¬ (x.2.2.1 = 0) → (((if 0 ≤ y12 then y12 else 0 - y12) ≤ (if 0 ≤ x.2.1 then x.2.1 else 0 - x.2.1) → K15 (x.1, x.2.1, (x.2.2.1 + 1), μ11)) ∧ (¬ ((if 0 ≤ y12 then y12 else 0 - y12) ≤ (if 0 ≤ x.2.1 then x.2.1 else 0 - x.2.1)) → G12_says_J52 x.2.2.1 y12 μ11 K15 Q)))))))
def G12_says  (μ : MM) (Q : Int32 → MM → Prop) : Prop :=
  Bd (sI μ 358 0 0) fun μ6 => G12_countsNames μ6 (fun μ7 => Lp (G12_says_L15 Q) (0, 0, 0, μ7))
def G12_child_J182  (p1 : Int32) (p2 : Int32) (p3 : Int32) (p5 : Int32) (p6 : Int32) (q0 : Int32) (q1 : Int32) (μ : MM) (K33 : Int32 × Int32 × Int32 × Int32 × MM → Prop) (K45 : Int32 × Int32 × Int32 × Int32 × MM → Prop) (Q : Int32 → MM → Prop) : Prop :=
  G12_flag q0 μ (fun r52 μ51 => Bd (q1 + r52) fun y53 => K45 (p2, p3, y53, (p6 + 1), μ51))
def G12_child_J159  (p1 : Int32) (p2 : Int32) (p4 : Int32) (p5 : Int32) (p6 : Int32) (q0 : Int32) (q1 : Int32) (μ : MM) (K33 : Int32 × Int32 × Int32 × Int32 × MM → Prop) (K45 : Int32 × Int32 × Int32 × Int32 × MM → Prop) (Q : Int32 → MM → Prop) : Prop :=
  G12_flag q0 μ (fun r46 μ45 => Bd (q1 + r46) fun y47 => G12_compares p5 p6 μ45 (fun r49 μ48 => ((0 ≤ r49 → G12_child_J182 p1 p2 y47 p5 p6 0 p4 μ48 K33 K45 Q) ∧ (¬ (0 ≤ r49) → G12_child_J182 p1 p2 y47 p5 p6 1 p4 μ48 K33 K45 Q))))
def G12_child_J112  (p1 : Int32) (p2 : Int32) (p3 : Int32) (p4 : Int32) (p5 : Int32) (p6 : Int32) (q0 : Int32) (μ : MM) (K33 : Int32 × Int32 × Int32 × Int32 × MM → Prop) (K45 : Int32 × Int32 × Int32 × Int32 × MM → Prop) (Q : Int32 → MM → Prop) : Prop :=
  ((q0 = 0 → K45 (p2, p3, p4, (p6 + 1), μ)) ∧ (¬ (q0 = 0) → vp_in p5 12 ∧ (((gI μ 385 p5.toNatClampNeg) ≤ 0 → K45 (p2, p3, p4, (p6 + 1), μ)) ∧ (¬ ((gI μ 385 p5.toNatClampNeg) ≤ 0) → vp_in p6 12 ∧ (((gI μ 385 p6.toNatClampNeg) ≤ 0 → K45 (p2, p3, p4, (p6 + 1), μ)) ∧ (¬ ((gI μ 385 p6.toNatClampNeg) ≤ 0) → G12_compares p5 p6 μ (fun r43 μ42 => ((r43 ≤ 0 → G12_child_J159 p1 (p2 + 1) p4 p5 p6 0 p3 μ42 K33 K45 Q) ∧ (¬ (r43 ≤ 0) → G12_child_J159 p1 (p2 + 1) p4 p5 p6 1 p3 μ42 K33 K45 Q)))))))))
def G12_child_J111  (p1 : Int32) (p2 : Int32) (p3 : Int32) (p4 : Int32) (p5 : Int32) (p6 : Int32) (μ : MM) (K33 : Int32 × Int32 × Int32 × Int32 × MM → Prop) (K45 : Int32 × Int32 × Int32 × Int32 × MM → Prop) (Q : Int32 → MM → Prop) : Prop :=
  G12_child_J112 p1 p2 p3 p4 p5 p6 0 μ K33 K45 Q
def G12_child_L45  (p1 : Int32) (p5 : Int32) (K33 : Int32 × Int32 × Int32 × Int32 × MM → Prop) (Q : Int32 → MM → Prop) (K45 : Int32 × Int32 × Int32 × Int32 × MM → Prop) (x : Int32 × Int32 × Int32 × Int32 × MM) : Prop :=
  (((gI x.2.2.2.2 358 3) ≤ x.2.2.2.1 → K33 (x.1, x.2.1, x.2.2.1, (p5 + 1), x.2.2.2.2)) ∧ (¬ ((gI x.2.2.2.2 358 3) ≤ x.2.2.2.1) → vp_in p5 12 ∧ vp_in x.2.2.2.1 12 ∧ ((¬ (gI x.2.2.2.2 360 p5.toNatClampNeg) = (gI x.2.2.2.2 360 x.2.2.2.1.toNatClampNeg) → G12_child_J111 p1 x.1 x.2.1 x.2.2.1 p5 x.2.2.2.1 x.2.2.2.2 K33 K45 Q) ∧ ((gI x.2.2.2.2 360 p5.toNatClampNeg) = (gI x.2.2.2.2 360 x.2.2.2.1.toNatClampNeg) → vp_in p5 12 ∧ vp_in x.2.2.2.1 12 ∧ ((¬ (gI x.2.2.2.2 361 p5.toNatClampNeg) = (gI x.2.2.2.2 361 x.2.2.2.1.toNatClampNeg) → G12_child_J111 p1 x.1 x.2.1 x.2.2.1 p5 x.2.2.2.1 x.2.2.2.2 K33 K45 Q) ∧ ((gI x.2.2.2.2 361 p5.toNatClampNeg) = (gI x.2.2.2.2 361 x.2.2.2.1.toNatClampNeg) → vp_in p5 12 ∧ vp_in x.2.2.2.1 12 ∧ ((((gI x.2.2.2.2 362 p5.toNatClampNeg) - (gI x.2.2.2.2 362 x.2.2.2.1.toNatClampNeg)) < p1 → G12_child_J111 p1 x.1 x.2.1 x.2.2.1 p5 x.2.2.2.1 x.2.2.2.2 K33 K45 Q) ∧ (¬ (((gI x.2.2.2.2 362 p5.toNatClampNeg) - (gI x.2.2.2.2 362 x.2.2.2.1.toNatClampNeg)) < p1) → G12_child_J112 p1 x.1 x.2.1 x.2.2.1 p5 x.2.2.2.1 1 x.2.2.2.2 K33 K45 Q))))))))
def G12_child_L33  (p1 : Int32)  (Q : Int32 → MM → Prop) (K33 : Int32 × Int32 × Int32 × Int32 × MM → Prop) (x : Int32 × Int32 × Int32 × Int32 × MM) : Prop :=
  (((gI x.2.2.2.2 358 3) ≤ x.2.2.2.1 → Bd (sI x.2.2.2.2 358 1 0) fun μ30 => G12_enters (x.1.toInt64) μ30 (fun μ31 => G12_enters (x.2.2.1.toInt64) μ31 (fun μ32 => Q x.2.1 μ32))) ∧ (¬ ((gI x.2.2.2.2 358 3) ≤ x.2.2.2.1) → Lp (G12_child_L45 p1 x.2.2.2.1 K33 Q) (x.1, x.2.1, x.2.2.1, 0, x.2.2.2.2)))
def G12_child (v1 : Int32) (μ : MM) (Q : Int32 → MM → Prop) : Prop :=
  Bd (sI μ 358 0 0) fun μ24 => G12_in (v1.toInt64) 1 9 μ24 (fun r26 μ25 => ((¬ r26 = 0 → G12_countsNames μ25 (fun μ28 => Lp (G12_child_L33 v1 Q) (0, 0, 0, 0, μ28))) ∧ (r26 = 0 → Q (-1) μ25)))
def G12_countsHouse_L29  (p1 : Int32)  (Q : Int32 → MM → Prop) (K29 : Int32 × MM → Prop) (x : Int32 × MM) : Prop :=
  (((gI x.2 358 12) ≤ x.1 → Q ((gI x.2 390 0) + (gI x.2 390 1)) x.2) ∧ (¬ ((gI x.2 358 12) ≤ x.1) → vp_in x.1 96 ∧ ((¬ (gI x.2 367 x.1.toNatClampNeg) = p1 → K29 ((x.1 + 1), x.2)) ∧ ((gI x.2 367 x.1.toNatClampNeg) = p1 → vp_in x.1 96 ∧ (((gI x.2 373 x.1.toNatClampNeg) = 0 → K29 ((x.1 + 1), x.2)) ∧ (¬ ((gI x.2 373 x.1.toNatClampNeg) = 0) → G12_peopleOf x.1 x.2 (fun r29 μ28 => vp_in r29 2 ∧ vp_in r29 2 ∧ Bd (sI μ28 390 r29.toNatClampNeg ((gI μ28 390 r29.toNatClampNeg) + 1)) fun μ32 => G12_peopleOf x.1 μ32 (fun r34 μ33 => vp_in r34 2 ∧ vp_in x.1 96 ∧ G12_flag (gI μ33 374 x.1.toNatClampNeg) μ33 (fun r38 μ37 => vp_in r34 2 ∧ Bd (sI μ37 391 r34.toNatClampNeg ((gI μ33 391 r34.toNatClampNeg) + r38)) fun μ40 => K29 ((x.1 + 1), μ40))))))))))
def G12_countsHouse_L2  (p1 : Int32)  (Q : Int32 → MM → Prop) (K2 : Int32 × MM → Prop) (x : Int32 × MM) : Prop :=
  ((2 ≤ x.1 → Lp (G12_countsHouse_L29 p1 Q) (0, x.2)) ∧ (¬ (2 ≤ x.1) → vp_in x.1 2 ∧ Bd (sI x.2 390 x.1.toNatClampNeg 0) fun μ42 => vp_in x.1 2 ∧ Bd (sI μ42 391 x.1.toNatClampNeg 0) fun μ44 => K2 ((x.1 + 1), μ44)))
def G12_countsHouse (v1 : Int32) (μ : MM) (Q : Int32 → MM → Prop) : Prop :=
  Lp (G12_countsHouse_L2 v1 Q) (0, μ)
def G12_table_J80  (p1 : Int32) (p2 : Int32) (p4 : Int32) (q0 : Int32) (q1 : Int32) (μ : MM) (K36 : Int32 × Int32 × MM → Prop) (Q : Int32 → MM → Prop) : Prop :=
  G12_flag q0 μ (fun r24 μ23 => Bd (q1 + r24) fun y25 => K36 (y25, (p4 + 1), μ23))
def G12_table_J79  (p1 : Int32) (p2 : Int32) (p4 : Int32) (q0 : Int32) (μ : MM) (K36 : Int32 × Int32 × MM → Prop) (Q : Int32 → MM → Prop) : Prop :=
  G12_table_J80 p1 p2 p4 0 q0 μ K36 Q
def G12_table_L36  (p1 : Int32) (p2 : Int32)  (Q : Int32 → MM → Prop) (K36 : Int32 × Int32 × MM → Prop) (x : Int32 × Int32 × MM) : Prop :=
  (((gI x.2.2 358 8) ≤ x.2.1 → Q x.1 x.2.2) ∧ (¬ ((gI x.2.2 358 8) ≤ x.2.1) → G12_countsHouse x.2.1 x.2.2 (fun r21 μ20 => ((r21 ≤ 0 → G12_table_J79 p1 p2 x.2.1 x.1 μ20 K36 Q) ∧ (¬ (r21 ≤ 0) → ((¬ (gI μ20 391 0) = p1 → G12_table_J79 p1 p2 x.2.1 x.1 μ20 K36 Q) ∧ ((gI μ20 391 0) = p1 → ((¬ (gI μ20 391 1) = p2 → G12_table_J79 p1 p2 x.2.1 x.1 μ20 K36 Q) ∧ ((gI μ20 391 1) = p2 → G12_table_J80 p1 p2 x.2.1 1 x.1 μ20 K36 Q)))))))))
def G12_table (v1 : Int32) (v2 : Int32) (μ : MM) (Q : Int32 → MM → Prop) : Prop :=
  Bd (sI μ 358 0 0) fun μ12 => G12_in (v1.toInt64) 0 4 μ12 (fun r14 μ13 => ((r14 = 0 → Q (-1) μ13) ∧ (¬ (r14 = 0) → G12_in (v2.toInt64) 0 4 μ13 (fun r17 μ16 => ((¬ r17 = 0 → Lp (G12_table_L36 v1 v2 Q) (0, 0, μ16)) ∧ (r17 = 0 → Q (-1) μ16))))))
def G12_isKind (v0 : Int32) (μ : MM) (Q : Int32 → MM → Prop) : Prop :=
  G12_in (v0.toInt64) 0 3 μ (fun r4 μ3 => bo r4 ∧ Q r4 μ3)
def G12_kind (v1 : Int32) (v2 : Int32) (v3 : Int32) (μ : MM) (Q : Int32 → MM → Prop) : Prop :=
  Bd (sI μ 358 0 0) fun μ12 => G12_isKind v1 μ12 (fun r14 μ13 => ((r14 = 0 → Q 0 μ13) ∧ (¬ (r14 = 0) → G12_in (v2.toInt64) 0 100 μ13 (fun r17 μ16 => ((r17 = 0 → Q 0 μ16) ∧ (¬ (r17 = 0) → G12_in (v3.toInt64) 0 100 μ16 (fun r20 μ19 => ((¬ r20 = 0 → vp_in v1 4 ∧ Bd (sI μ19 387 v1.toNatClampNeg v2) fun μ23 => vp_in v1 4 ∧ Bd (sI μ23 388 v1.toNatClampNeg v3) fun μ25 => Q 1 μ25) ∧ (r20 = 0 → Q 0 μ19)))))))))
def G12_parts_L38  (p1 : Int32) (p2 : Int32)  (Q : Int32 → MM → Prop) (K38 : Int32 × Int32 × MM → Prop) (x : Int32 × Int32 × MM) : Prop :=
  ((4 ≤ x.2.1 → ((¬ x.1 = 0 → vp_in p1 4 ∧ Bd (gI x.2.2 389 p1.toNatClampNeg) fun y23 => vp_in p1 4 ∧ Bd (sI x.2.2 389 p1.toNatClampNeg p2) fun μ25 => Q y23 μ25) ∧ (x.1 = 0 → Q (-1) x.2.2))) ∧ (¬ (4 ≤ x.2.1) → vp_in x.2.1 4 ∧ Bd (x.1 + (gI x.2.2 389 x.2.1.toNatClampNeg)) fun y27 => K38 (y27, (x.2.1 + 1), x.2.2)))
def G12_parts (v1 : Int32) (v2 : Int32) (μ : MM) (Q : Int32 → MM → Prop) : Prop :=
  Bd (sI μ 358 0 0) fun μ11 => G12_isKind v1 μ11 (fun r13 μ12 => ((r13 = 0 → Q (-1) μ12) ∧ (¬ (r13 = 0) → G12_in (v2.toInt64) 0 99 μ12 (fun r16 μ15 => ((¬ r16 = 0 → vp_in v1 4 ∧ Bd (v2 - (gI μ15 389 v1.toNatClampNeg)) fun y19 => Lp (G12_parts_L38 v1 v2 Q) (y19, 0, μ15)) ∧ (r16 = 0 → Q (-1) μ15))))))
def G12_power_L5  (p0 : Int64) (p2 : Int32)  (Q : Int64 → MM → Prop) (K5 : Int64 × Int32 × MM → Prop) (x : Int64 × Int32 × MM) : Prop :=
  ((p2 ≤ x.2.1 → Q x.1 x.2.2) ∧ (¬ (p2 ≤ x.2.1) → Bd (x.1 * p0) fun y2 => K5 (y2, (x.2.1 + 1), x.2.2)))
def G12_power (v0 : Int64) (v2 : Int32) (μ : MM) (Q : Int64 → MM → Prop) : Prop :=
  Lp (G12_power_L5 v0 v2 Q) (1, 0, μ)
def G12_wouldBe (v1 : Int32) (μ : MM) (Q : Int64 → MM → Prop) : Prop :=
  vp_in v1 4 ∧ G12_power ((gI μ 387 v1.toNatClampNeg).toInt64) (gI μ 391 0) μ (fun r21 μ20 => vp_in v1 4 ∧ G12_power ((100 - (gI μ20 387 v1.toNatClampNeg)).toInt64) ((gI μ20 390 0) - (gI μ20 391 0)) μ20 (fun r24 μ23 => Bd (r21 * r24) fun y25 => vp_in v1 4 ∧ G12_power ((gI μ23 388 v1.toNatClampNeg).toInt64) (gI μ23 391 1) μ23 (fun r28 μ27 => vp_in v1 4 ∧ G12_power ((100 - (gI μ27 388 v1.toNatClampNeg)).toInt64) ((gI μ27 390 1) - (gI μ27 391 1)) μ27 (fun r31 μ30 => Bd (r28 * r31) fun y32 => Q (y25 * y32) μ30))))
def G12_allKinds_L4    (Q : Int64 → MM → Prop) (K4 : Int64 × Int32 × MM → Prop) (x : Int64 × Int32 × MM) : Prop :=
  ((4 ≤ x.2.1 → Q x.1 x.2.2) ∧ (¬ (4 ≤ x.2.1) → vp_in x.2.1 4 ∧ G12_wouldBe x.2.1 x.2.2 (fun r7 μ6 => Bd (x.1 + (((gI x.2.2 389 x.2.1.toNatClampNeg).toInt64) * r7)) fun y8 => K4 (y8, (x.2.1 + 1), μ6))))
def G12_allKinds  (μ : MM) (Q : Int64 → MM → Prop) : Prop :=
  Lp (G12_allKinds_L4 Q) (0, 0, μ)
def G12_likelyOf (v1 : Int32) (μ : MM) (Q : Int64 → MM → Prop) : Prop :=
  vp_in v1 4 ∧ G12_wouldBe v1 μ (fun r9 μ8 => G12_allKinds μ8 (fun r11 μ10 => ¬ r11 = 0 ∧ Q ((((1000000 * (gI μ 389 v1.toNatClampNeg)).toInt64) * r9) / r11) μ10))
def G12_likely (v1 : Int32) (v2 : Int32) (μ : MM) (Q : Int32 → MM → Prop) : Prop :=
  Bd (sI μ 358 0 0) fun μ12 => G12_isHouse v1 μ12 (fun r14 μ13 => ((r14 = 0 → Q (-1) μ13) ∧ (¬ (r14 = 0) → G12_isKind v2 μ13 (fun r17 μ16 => ((¬ r17 = 0 → G12_countsHouse v1 μ16 (fun r20 μ19 => G12_allKinds μ19 (fun r22 μ21 => ((¬ (lg_cmp r22 0) = 0 → G12_likelyOf v2 μ21 (fun r25 μ24 => Q (r25.toInt32) μ24)) ∧ ((lg_cmp r22 0) = 0 → Q (-2) μ21))))) ∧ (r17 = 0 → Q (-1) μ16))))))
def G12_becomes_L2 (a0 : Nat) (a1 : Nat)   (Q : MM → Prop) (K2 : Int32 × MM → Prop) (x : Int32 × MM) : Prop :=
  vp_in 0 (ln a1) ∧ (((gI x.2 a1 0) < x.1 → Q x.2) ∧ (¬ ((gI x.2 a1 0) < x.1) → vp_in x.1 (ln a1) ∧ vp_in x.1 (ln a0) ∧ Bd (sI x.2 a0 x.1.toNatClampNeg (gI x.2 a1 x.1.toNatClampNeg)) fun μ9 => K2 ((x.1 + 1), μ9)))
def G12_becomes (a0 : Nat) (a1 : Nat) (μ : MM) (Q : MM → Prop) : Prop :=
  Lp (G12_becomes_L2 a0 a1 Q) (0, μ)
def G12_isSmall (a0 : Nat) (v1 : Int32) (μ : MM) (Q : MM → Prop) : Prop :=
  vp_in 0 (ln a0) ∧ Bd (sI μ a0 0 1) fun μ6 => vp_in 1 (ln a0) ∧ Bd (sI μ6 a0 1 v1) fun μ8 => Q μ8
def G12_times_L78 (a0 : Nat)   (Q : MM → Prop) (K78 : MM → Prop) (x : MM) : Prop :=
  vp_in 0 (ln a0) ∧ (((gI x a0 0) ≤ 1 → Q x) ∧ (¬ ((gI x a0 0) ≤ 1) → vp_in 0 (ln a0) ∧ vp_in (gI x a0 0) (ln a0) ∧ ((¬ (gI x a0 ((gI x a0 0).toNatClampNeg)) = 0 → Q x) ∧ ((gI x a0 ((gI x a0 0).toNatClampNeg)) = 0 → vp_in 0 (ln a0) ∧ vp_in 0 (ln a0) ∧ Bd (sI x a0 0 ((gI x a0 0) - 1)) fun μ31 => K78 μ31))))
def G12_times_L45 (a0 : Nat)   (Q : MM → Prop) (K45 : Int64 × MM → Prop) (x : Int64 × MM) : Prop :=
  (((lg_cmp x.1 0) ≤ 0 → Lp (G12_times_L78 a0 Q) x.2) ∧ (¬ ((lg_cmp x.1 0) ≤ 0) → vp_in 0 (ln a0) ∧ vp_in 0 (ln a0) ∧ Bd (sI x.2 a0 0 ((gI x.2 a0 0) + 1)) fun μ34 => vp_in 0 (ln a0) ∧ vp_in (gI μ34 a0 0) (ln a0) ∧ Bd (sI μ34 a0 ((gI μ34 a0 0).toNatClampNeg) ((x.1 - x.1 / 10000 * 10000).toInt32)) fun μ37 => Bd (x.1 / 10000) fun y38 => K45 (y38, μ37)))
def G12_times_L5 (a0 : Nat) (p1 : Int64)  (Q : MM → Prop) (K5 : Int64 × Int32 × MM → Prop) (x : Int64 × Int32 × MM) : Prop :=
  vp_in 0 (ln a0) ∧ (((gI x.2.2 a0 0) < x.2.1 → Lp (G12_times_L45 a0 Q) (x.1, x.2.2)) ∧ (¬ ((gI x.2.2 a0 0) < x.2.1) → vp_in x.2.1 (ln a0) ∧ Bd (x.1 + (((gI x.2.2 a0 x.2.1.toNatClampNeg).toInt64) * p1)) fun y40 => vp_in x.2.1 (ln a0) ∧ Bd (sI x.2.2 a0 x.2.1.toNatClampNeg ((y40 - y40 / 10000 * 10000).toInt32)) fun μ42 => Bd (y40 / 10000) fun y43 => K5 (y43, (x.2.1 + 1), μ42)))
def G12_times (a0 : Nat) (v1 : Int64) (μ : MM) (Q : MM → Prop) : Prop :=
  Lp (G12_times_L5 a0 v1 Q) (0, 1, μ)
def G12_adds_J53 (a0 : Nat) (a1 : Nat) (p2 : Int32) (p3 : Int32) (p4 : Int32) (q0 : Int32) (q1 : Int32) (μ : MM) (K15 : Int32 × Int32 × MM → Prop) (Q : MM → Prop) : Prop :=
  Bd ((q1 + q0) + p3) fun y36 => vp_in p4 (ln a0) ∧ Bd (sI μ a0 p4.toNatClampNeg (y36 - y36 / 10000 * 10000)) fun μ38 => Bd (y36 / 10000) fun y39 => K15 (y39, (p4 + 1), μ38)
def G12_adds_J37 (a0 : Nat) (a1 : Nat) (p2 : Int32) (p3 : Int32) (p4 : Int32) (q0 : Int32) (μ : MM) (K15 : Int32 × Int32 × MM → Prop) (Q : MM → Prop) : Prop :=
  vp_in 0 (ln a1) ∧ (((gI μ a1 0) < p4 → G12_adds_J53 a0 a1 p2 p3 p4 0 q0 μ K15 Q) ∧ (¬ ((gI μ a1 0) < p4) → vp_in p4 (ln a1) ∧ G12_adds_J53 a0 a1 p2 p3 p4 (gI μ a1 p4.toNatClampNeg) q0 μ K15 Q))
def G12_adds_L15 (a0 : Nat) (a1 : Nat) (p2 : Int32)  (Q : MM → Prop) (K15 : Int32 × Int32 × MM → Prop) (x : Int32 × Int32 × MM) : Prop :=
  ((p2 < x.2.1 → vp_in 0 (ln a0) ∧ Bd (sI x.2.2 a0 0 p2) fun μ24 => ((x.1 ≤ 0 → Q μ24) ∧ (¬ (x.1 ≤ 0) → vp_in 0 (ln a0) ∧ vp_in 0 (ln a0) ∧ Bd (sI μ24 a0 0 ((gI μ24 a0 0) + 1)) fun μ28 => vp_in 0 (ln a0) ∧ vp_in (gI μ28 a0 0) (ln a0) ∧ Bd (sI μ28 a0 ((gI μ28 a0 0).toNatClampNeg) x.1) fun μ31 => Q μ31))) ∧ (¬ (p2 < x.2.1) → vp_in 0 (ln a0) ∧ (((gI x.2.2 a0 0) < x.2.1 → G12_adds_J37 a0 a1 p2 x.1 x.2.1 0 x.2.2 K15 Q) ∧ (¬ ((gI x.2.2 a0 0) < x.2.1) → vp_in x.2.1 (ln a0) ∧ G12_adds_J37 a0 a1 p2 x.1 x.2.1 (gI x.2.2 a0 x.2.1.toNatClampNeg) x.2.2 K15 Q))))
def G12_adds (a0 : Nat) (a1 : Nat) (μ : MM) (Q : MM → Prop) : Prop :=
  vp_in 0 (ln a0) ∧ vp_in 0 (ln a1) ∧ Bd (if (gI μ a0 0) < (gI μ a1 0) then (gI μ a1 0) else (gI μ a0 0)) fun y21 => Lp (G12_adds_L15 a0 a1 y21 Q) (0, 1, μ)
def G12_comparesGreat_L28 (a0 : Nat) (a1 : Nat)   (Q : Int32 → MM → Prop) (K28 : Int32 × MM → Prop) (x : Int32 × MM) : Prop :=
  ((x.1 ≤ 0 → Q 0 x.2) ∧ (¬ (x.1 ≤ 0) → vp_in x.1 (ln a0) ∧ vp_in x.1 (ln a1) ∧ (((gI x.2 a0 x.1.toNatClampNeg) = (gI x.2 a1 x.1.toNatClampNeg) → K28 ((x.1 + (-1)), x.2)) ∧ (¬ ((gI x.2 a0 x.1.toNatClampNeg) = (gI x.2 a1 x.1.toNatClampNeg)) → vp_in x.1 (ln a0) ∧ vp_in x.1 (ln a1) ∧ (((gI x.2 a1 x.1.toNatClampNeg) ≤ (gI x.2 a0 x.1.toNatClampNeg) → Q 1 x.2) ∧ (¬ ((gI x.2 a1 x.1.toNatClampNeg) ≤ (gI x.2 a0 x.1.toNatClampNeg)) → Q (-1) x.2))))))
def G12_comparesGreat (a0 : Nat) (a1 : Nat) (μ : MM) (Q : Int32 → MM → Prop) : Prop :=
  vp_in 0 (ln a0) ∧ vp_in 0 (ln a1) ∧ (((gI μ a0 0) = (gI μ a1 0) → vp_in 0 (ln a0) ∧ Bd (gI μ a0 0) fun y14 => Lp (G12_comparesGreat_L28 a0 a1 Q) (y14, μ)) ∧ (¬ ((gI μ a0 0) = (gI μ a1 0)) → vp_in 0 (ln a0) ∧ vp_in 0 (ln a1) ∧ (((gI μ a1 0) ≤ (gI μ a0 0) → Q 1 μ) ∧ (¬ ((gI μ a1 0) ≤ (gI μ a0 0)) → Q (-1) μ))))
def G12_fit_L311  (p1 : Int32)  (Q : Int32 → MM → Prop) (K311 : Int32 × MM → Prop) (x : Int32 × MM) : Prop :=
  ((4 ≤ x.1 → Q p1 x.2) ∧ (¬ (4 ≤ x.1) → vp_in x.1 4 ∧ G12_enters ((gI x.2 396 x.1.toNatClampNeg).toInt64) x.2 (fun μ48 => K311 ((x.1 + 1), μ48))))
def G12_fit_L253  (p1 : Int32) (p2 : Int32) (K72 : Int32 × MM → Prop) (Q : Int32 → MM → Prop) (K253 : Int32 × MM → Prop) (x : Int32 × MM) : Prop :=
  ((4 ≤ x.1 → K72 ((p2 + 1), x.2)) ∧ (¬ (4 ≤ x.1) → vp_in x.1 4 ∧ vp_in x.1 4 ∧ Bd (sI x.2 396 x.1.toNatClampNeg (gI x.2 395 x.1.toNatClampNeg)) fun μ65 => K253 ((x.1 + 1), μ65)))
def G12_fit_L174  (p1 : Int32) (p2 : Int32) (p3 : Int32) (K72 : Int32 × MM → Prop) (K163 : Int32 × MM → Prop) (Q : Int32 → MM → Prop) (K174 : Int64 × Int32 × MM → Prop) (x : Int64 × Int32 × MM) : Prop :=
  ((4 ≤ x.2.1 → G12_times 392 x.1 x.2.2 (fun μ67 => K163 ((p3 + 1), μ67))) ∧ (¬ (4 ≤ x.2.1) → vp_in x.2.1 4 ∧ vp_in ((4 * p3) + x.2.1) 96 ∧ Bd (x.1 + (((gI x.2.2 395 x.2.1.toNatClampNeg).toInt64) * (gJ x.2.2 394 (((4 * p3) + x.2.1).toNatClampNeg)))) fun y70 => K174 (y70, (x.2.1 + 1), x.2.2)))
def G12_fit_L163  (p1 : Int32) (p2 : Int32) (K72 : Int32 × MM → Prop) (Q : Int32 → MM → Prop) (K163 : Int32 × MM → Prop) (x : Int32 × MM) : Prop :=
  ((p1 ≤ x.1 → G12_comparesGreat 392 393 x.2 (fun r59 μ58 => ((r59 ≤ 0 → K72 ((p2 + 1), μ58)) ∧ (¬ (r59 ≤ 0) → G12_becomes 393 392 μ58 (fun μ61 => Lp (G12_fit_L253 p1 p2 K72 Q) (0, μ61)))))) ∧ (¬ (p1 ≤ x.1) → Lp (G12_fit_L174 p1 p2 x.1 K72 K163 Q) (0, 0, x.2)))
def G12_fit_L72  (p1 : Int32)  (Q : Int32 → MM → Prop) (K72 : Int32 × MM → Prop) (x : Int32 × MM) : Prop :=
  ((1331 ≤ x.1 → ((¬ (gI x.2 393 0) = 1 → Bd (sI x.2 358 1 0) fun μ45 => Lp (G12_fit_L311 p1 Q) (0, μ45)) ∧ ((gI x.2 393 0) = 1 → ((¬ (gI x.2 393 1) = 0 → Bd (sI x.2 358 1 0) fun μ50 => Lp (G12_fit_L311 p1 Q) (0, μ50)) ∧ ((gI x.2 393 1) = 0 → Q (-2) x.2))))) ∧ (¬ (1331 ≤ x.1) → Bd (sI x.2 395 0 (x.1 / 121)) fun μ51 => Bd (sI μ51 395 1 ((x.1 / 11) - (x.1 / 11) / 11 * 11)) fun μ52 => Bd (sI μ52 395 2 (x.1 - x.1 / 11 * 11)) fun μ53 => Bd (sI μ53 395 3 (((10 - (gI μ53 395 0)) - (gI μ53 395 1)) - (gI μ53 395 2))) fun μ54 => ((0 ≤ (gI μ54 395 3) → G12_isSmall 392 1 μ54 (fun μ56 => Lp (G12_fit_L163 p1 x.1 K72 Q) (0, μ56))) ∧ (¬ (0 ≤ (gI μ54 395 3)) → K72 ((x.1 + 1), μ54)))))
def G12_fit_L27  (p1 : Int32) (p2 : Int32) (K9 : Int32 × Int32 × MM → Prop) (Q : Int32 → MM → Prop) (K27 : Int32 × MM → Prop) (x : Int32 × MM) : Prop :=
  ((4 ≤ x.1 → K9 ((p1 + 1), (p2 + 1), x.2)) ∧ (¬ (4 ≤ x.1) → G12_wouldBe x.1 x.2 (fun r76 μ75 => vp_in ((4 * p1) + x.1) 96 ∧ Bd (sJ μ75 394 (((4 * p1) + x.1).toNatClampNeg) r76) fun μ78 => K27 ((x.1 + 1), μ78))))
def G12_fit_L9    (Q : Int32 → MM → Prop) (K9 : Int32 × Int32 × MM → Prop) (x : Int32 × Int32 × MM) : Prop :=
  (((gI x.2.2 358 8) ≤ x.2.1 → G12_isSmall 393 0 x.2.2 (fun μ42 => Lp (G12_fit_L72 x.1 Q) (0, μ42))) ∧ (¬ ((gI x.2.2 358 8) ≤ x.2.1) → G12_countsHouse x.2.1 x.2.2 (fun r72 μ71 => ((r72 ≤ 0 → K9 (x.1, (x.2.1 + 1), μ71)) ∧ (¬ (r72 ≤ 0) → Lp (G12_fit_L27 x.1 x.2.1 K9 Q) (0, μ71))))))
def G12_fit  (μ : MM) (Q : Int32 → MM → Prop) : Prop :=
  Bd (sI μ 358 0 0) fun μ40 => Lp (G12_fit_L9 Q) (0, 0, μ40)
def G12_likelies_L48  (p1 : Int32) (p2 : Int32) (K2 : Int32 × MM → Prop) (Q : MM → Prop) (K48 : Int32 × MM → Prop) (x : Int32 × MM) : Prop :=
  ((4 ≤ x.1 → K2 ((p2 + 1), x.2)) ∧ (¬ (4 ≤ x.1) → vp_in p2 24 ∧ G12_has p1 x.1 x.2 (fun r30 μ29 => ((r30 = 0 → vp_in p2 24 ∧ Bd (sJ μ29 397 p2.toNatClampNeg ((gJ x.2 397 p2.toNatClampNeg) + 0)) fun μ33 => K48 ((x.1 + 1), μ33)) ∧ (¬ (r30 = 0) → G12_likelyOf x.1 μ29 (fun r35 μ34 => vp_in p2 24 ∧ Bd (sJ μ34 397 p2.toNatClampNeg ((gJ x.2 397 p2.toNatClampNeg) + r35)) fun μ37 => K48 ((x.1 + 1), μ37)))))))
def G12_likelies_L2  (p1 : Int32)  (Q : MM → Prop) (K2 : Int32 × MM → Prop) (x : Int32 × MM) : Prop :=
  (((gI x.2 358 8) ≤ x.1 → Q x.2) ∧ (¬ ((gI x.2 358 8) ≤ x.1) → vp_in x.1 24 ∧ Bd (sJ x.2 397 x.1.toNatClampNeg (-1)) fun μ18 => G12_countsHouse x.1 μ18 (fun r20 μ19 => ((r20 = 0 → K2 ((x.1 + 1), μ19)) ∧ (¬ (r20 = 0) → G12_allKinds μ19 (fun r23 μ22 => ((¬ (lg_cmp r23 0) = 0 → vp_in x.1 24 ∧ Bd (sJ μ22 397 x.1.toNatClampNeg 0) fun μ26 => Lp (G12_likelies_L48 p1 x.1 K2 Q) (0, μ26)) ∧ ((lg_cmp r23 0) = 0 → K2 ((x.1 + 1), μ22)))))))))
def G12_likelies (v1 : Int32) (μ : MM) (Q : MM → Prop) : Prop :=
  Lp (G12_likelies_L2 v1 Q) (0, μ)
def G12_named_J150  (p2 : Int32) (p3 : Int32) (p4 : Int64) (p8 : Int32) (q0 : Int64) (q1 : Int64) (μ : MM) (K47 : Int32 × Int64 × Int64 × Int32 × MM → Prop) (Q : Int32 → MM → Prop) : Prop :=
  Bd (q1 + q0) fun y42 => K47 (p3, p4, y42, (p8 + 1), μ)
def G12_named_J129  (p2 : Int32) (p3 : Int32) (p6 : Int64) (p8 : Int32) (p9 : Int32) (q0 : Int64) (q1 : Int64) (μ : MM) (K47 : Int32 × Int64 × Int64 × Int32 × MM → Prop) (Q : Int32 → MM → Prop) : Prop :=
  Bd (q1 + q0) fun y39 => ((p9 = 0 → vp_in p8 24 ∧ G12_named_J150 p2 p3 y39 p8 (gJ μ 397 p8.toNatClampNeg) p6 μ K47 Q) ∧ (¬ (p9 = 0) → G12_named_J150 p2 p3 y39 p8 0 p6 μ K47 Q))
def G12_named_J105  (p2 : Int32) (p4 : Int64) (p6 : Int64) (p8 : Int32) (p9 : Int32) (q0 : Int32) (q1 : Int32) (μ : MM) (K47 : Int32 × Int64 × Int64 × Int32 × MM → Prop) (Q : Int32 → MM → Prop) : Prop :=
  Bd (q1 ||| q0) fun y37 => ((p9 = 0 → G12_named_J129 p2 y37 p6 p8 p9 0 p4 μ K47 Q) ∧ (¬ (p9 = 0) → vp_in p8 24 ∧ G12_named_J129 p2 y37 p6 p8 p9 (1000000 - (gJ μ 397 p8.toNatClampNeg)) p4 μ K47 Q))
def G12_named_J89  (p2 : Int32) (p3 : Int32) (p4 : Int64) (p6 : Int64) (p8 : Int32) (q0 : Int32) (μ : MM) (K47 : Int32 × Int64 × Int64 × Int32 × MM → Prop) (Q : Int32 → MM → Prop) : Prop :=
  ((q0 = 0 → G12_named_J105 p2 p4 p6 p8 q0 0 p3 μ K47 Q) ∧ (¬ (q0 = 0) → G12_named_J105 p2 p4 p6 p8 q0 (1 <<< (p8 &&& 31)) p3 μ K47 Q))
def G12_named_L47  (p2 : Int32)  (Q : Int32 → MM → Prop) (K47 : Int32 × Int64 × Int64 × Int32 × MM → Prop) (x : Int32 × Int64 × Int64 × Int32 × MM) : Prop :=
  (((gI x.2.2.2.2 358 8) ≤ x.2.2.2.1 → Bd (sI x.2.2.2.2 358 1 0) fun μ26 => G12_enters (x.1.toInt64) μ26 (fun μ27 => G12_enters x.2.1 μ27 (fun μ28 => G12_enters x.2.2.1 μ28 (fun μ29 => GJ6_bitCount_0f7a4 x.1 μ29 (fun r31 μ30 => Q r31 μ30))))) ∧ (¬ ((gI x.2.2.2.2 358 8) ≤ x.2.2.2.1) → vp_in x.2.2.2.1 24 ∧ ((0 ≤ (lg_cmp (gJ x.2.2.2.2 397 x.2.2.2.1.toNatClampNeg) 0) → vp_in x.2.2.2.1 24 ∧ (((lg_cmp (gJ x.2.2.2.2 397 x.2.2.2.1.toNatClampNeg) (p2.toInt64)) < 0 → G12_named_J89 p2 x.1 x.2.1 x.2.2.1 x.2.2.2.1 0 x.2.2.2.2 K47 Q) ∧ (¬ ((lg_cmp (gJ x.2.2.2.2 397 x.2.2.2.1.toNatClampNeg) (p2.toInt64)) < 0) → G12_named_J89 p2 x.1 x.2.1 x.2.2.1 x.2.2.2.1 1 x.2.2.2.2 K47 Q))) ∧ (¬ (0 ≤ (lg_cmp (gJ x.2.2.2.2 397 x.2.2.2.1.toNatClampNeg) 0)) → K47 (x.1, x.2.1, x.2.2.1, (x.2.2.2.1 + 1), x.2.2.2.2)))))
def G12_named (v1 : Int32) (v2 : Int32) (μ : MM) (Q : Int32 → MM → Prop) : Prop :=
  Bd (sI μ 358 0 0) fun μ17 => G12_in (v1.toInt64) 1 15 μ17 (fun r19 μ18 => ((r19 = 0 → Q (-1) μ18) ∧ (¬ (r19 = 0) → G12_in (v2.toInt64) 0 1000000 μ18 (fun r22 μ21 => ((¬ r22 = 0 → G12_likelies v1 μ21 (fun μ24 => Lp (G12_named_L47 v2 Q) (0, 0, 0, 0, μ24))) ∧ (r22 = 0 → Q (-1) μ21))))))
def G12_sure_L51  (p2 : Int32) (p3 : Int32) (K38 : Int32 × MM → Prop) (Q : Int32 → MM → Prop) (K51 : Int64 × Int32 × MM → Prop) (x : Int64 × Int32 × MM) : Prop :=
  (((gI x.2.2 358 8) ≤ x.2.1 → ((0 < (lg_cmp x.1 (p2.toInt64)) → K38 ((p3 + 1000), x.2.2)) ∧ (¬ (0 < (lg_cmp x.1 (p2.toInt64))) → Q p3 x.2.2))) ∧ (¬ ((gI x.2.2 358 8) ≤ x.2.1) → vp_in x.2.1 24 ∧ (((lg_cmp (gJ x.2.2 397 x.2.1.toNatClampNeg) (p3.toInt64)) < 0 → Bd (x.1 + 0) fun y22 => K51 (y22, (x.2.1 + 1), x.2.2)) ∧ (¬ ((lg_cmp (gJ x.2.2 397 x.2.1.toNatClampNeg) (p3.toInt64)) < 0) → vp_in x.2.1 24 ∧ Bd (x.1 + (1000000 - (gJ x.2.2 397 x.2.1.toNatClampNeg))) fun y24 => K51 (y24, (x.2.1 + 1), x.2.2)))))
def G12_sure_L38  (p2 : Int32)  (Q : Int32 → MM → Prop) (K38 : Int32 × MM → Prop) (x : Int32 × MM) : Prop :=
  ((1000000 < x.1 → Q (-2) x.2) ∧ (¬ (1000000 < x.1) → Lp (G12_sure_L51 p2 x.1 K38 Q) (0, 0, x.2)))
def G12_sure (v1 : Int32) (v2 : Int32) (μ : MM) (Q : Int32 → MM → Prop) : Prop :=
  Bd (sI μ 358 0 0) fun μ9 => G12_in (v1.toInt64) 1 15 μ9 (fun r11 μ10 => ((r11 = 0 → Q (-1) μ10) ∧ (¬ (r11 = 0) → G12_in (v2.toInt64) 0 24000000 μ10 (fun r14 μ13 => ((¬ r14 = 0 → G12_likelies v1 μ13 (fun μ16 => Lp (G12_sure_L38 v2 Q) (0, μ16))) ∧ (r14 = 0 → Q (-1) μ13))))))
def G12_most_L105  (p1 : Int32) (p2 : Int32) (p4 : Int32) (p5 : Int32) (K91 : Int32 × Int32 × MM → Prop) (Q : Int32 → MM → Prop) (K105 : Int32 × Int32 × MM → Prop) (x : Int32 × Int32 × MM) : Prop :=
  (((gI x.2.2 358 8) ≤ x.2.1 → vp_in x.1 24 ∧ Bd (p5 + (gI x.2.2 398 x.1.toNatClampNeg)) fun y28 => vp_in x.1 24 ∧ Bd (sI x.2.2 398 x.1.toNatClampNeg 0) fun μ30 => K91 ((p4 + 1), y28, μ30)) ∧ (¬ ((gI x.2.2 358 8) ≤ x.2.1) → vp_in x.2.1 24 ∧ vp_in x.1 24 ∧ (((gI x.2.2 398 x.2.1.toNatClampNeg) ≤ (gI x.2.2 398 x.1.toNatClampNeg) → K105 (x.1, (x.2.1 + 1), x.2.2)) ∧ (¬ ((gI x.2.2 398 x.2.1.toNatClampNeg) ≤ (gI x.2.2 398 x.1.toNatClampNeg)) → K105 (x.2.1, (x.2.1 + 1), x.2.2)))))
def G12_most_L91  (p1 : Int32) (p2 : Int32)  (Q : Int32 → MM → Prop) (K91 : Int32 × Int32 × MM → Prop) (x : Int32 × Int32 × MM) : Prop :=
  ((p1 ≤ (2 * x.2.1) → Bd (sI x.2.2 358 1 0) fun μ23 => G12_enters (p2.toInt64) μ23 (fun μ24 => G12_enters (p1.toInt64) μ24 (fun μ25 => Q x.1 μ25))) ∧ (¬ (p1 ≤ (2 * x.2.1)) → Lp (G12_most_L105 p1 p2 x.1 x.2.1 K91 Q) (0, 1, x.2.2)))
def G12_most_J74  (p1 : Int32) (p4 : Int32) (q0 : Int32) (q1 : Int32) (μ : MM) (K17 : Int32 × Int32 × Int32 × MM → Prop) (Q : Int32 → MM → Prop) : Prop :=
  G12_flag q0 μ (fun r43 μ42 => Bd (q1 + r43) fun y44 => K17 (p1, y44, (p4 + 1), μ42))
def G12_most_L17    (Q : Int32 → MM → Prop) (K17 : Int32 × Int32 × Int32 × MM → Prop) (x : Int32 × Int32 × Int32 × MM) : Prop :=
  (((gI x.2.2.2 358 8) ≤ x.2.2.1 → Lp (G12_most_L91 x.1 x.2.1 Q) (0, 0, x.2.2.2)) ∧ (¬ ((gI x.2.2.2 358 8) ≤ x.2.2.1) → G12_countsHouse x.2.2.1 x.2.2.2 (fun r35 μ34 => vp_in x.2.2.1 24 ∧ Bd (sI μ34 398 x.2.2.1.toNatClampNeg (if 0 < ((gI μ34 391 0) - (gI μ34 391 1)) then ((gI μ34 391 0) - (gI μ34 391 1)) else 0)) fun μ37 => vp_in x.2.2.1 24 ∧ Bd (x.1 + (gI μ37 398 x.2.2.1.toNatClampNeg)) fun y39 => vp_in x.2.2.1 24 ∧ (((gI μ37 398 x.2.2.1.toNatClampNeg) ≤ 0 → G12_most_J74 y39 x.2.2.1 0 x.2.1 μ37 K17 Q) ∧ (¬ ((gI μ37 398 x.2.2.1.toNatClampNeg) ≤ 0) → G12_most_J74 y39 x.2.2.1 1 x.2.1 μ37 K17 Q)))))
def G12_most  (μ : MM) (Q : Int32 → MM → Prop) : Prop :=
  Bd (sI μ 358 0 0) fun μ20 => Lp (G12_most_L17 Q) (0, 0, 0, μ20)
def G12_both_L247  (p6 : Int64) (p10 : Int64) (p12 : Int64)  (Q : Int32 → MM → Prop) (K247 : Int32 × MM → Prop) (x : Int32 × MM) : Prop :=
  ((4 ≤ x.1 → G12_entersFraction p12 (p6 * p10) x.2 (fun μ56 => (((lg_cmp p12 0) ≤ 0 → ((0 ≤ (lg_cmp p12 0) → Q 0 μ56) ∧ (¬ (0 ≤ (lg_cmp p12 0)) → Q 2 μ56))) ∧ (¬ ((lg_cmp p12 0) ≤ 0) → Q 1 μ56)))) ∧ (¬ (4 ≤ x.1) → vp_in x.1 4 ∧ G12_enters ((gI x.2 400 x.1.toNatClampNeg).toInt64) x.2 (fun μ60 => vp_in x.1 4 ∧ G12_enters ((gI μ60 399 x.1.toNatClampNeg).toInt64) μ60 (fun μ62 => K247 ((x.1 + 1), μ62)))))
def G12_both_L140    (Q : Int32 → MM → Prop) (K140 : Int32 × MM → Prop) (x : Int32 × MM) : Prop :=
  ((4 ≤ x.1 → Bd ((((gI x.2 400 0).toInt64) * ((gI x.2 399 1).toInt64)) - (((gI x.2 400 1).toInt64) * ((gI x.2 399 0).toInt64))) fun y49 => Bd (((gI x.2 399 0).toInt64) * ((gI x.2 399 1).toInt64)) fun y50 => Bd ((((gI x.2 400 2).toInt64) * ((gI x.2 399 3).toInt64)) - (((gI x.2 400 3).toInt64) * ((gI x.2 399 2).toInt64))) fun y51 => Bd (((gI x.2 399 2).toInt64) * ((gI x.2 399 3).toInt64)) fun y52 => Bd ((y49 * y52) - (y51 * y50)) fun y53 => Bd (sI x.2 358 1 0) fun μ54 => Lp (G12_both_L247 y50 y52 y53 Q) (0, μ54)) ∧ (¬ (4 ≤ x.1) → vp_in x.1 4 ∧ ((¬ (gI x.2 399 x.1.toNatClampNeg) = 0 → K140 ((x.1 + 1), x.2)) ∧ ((gI x.2 399 x.1.toNatClampNeg) = 0 → Q (-2) x.2))))
def G12_both_J100  (p1 : Int32) (p4 : Int32) (q0 : Int32) (q1 : Int32) (μ : MM) (K57 : Int32 × MM → Prop) (Q : Int32 → MM → Prop) : Prop :=
  G12_flag q0 μ (fun r72 μ71 => Bd (q1 + r72) fun y73 => vp_in y73 4 ∧ vp_in y73 4 ∧ Bd (sI μ71 399 y73.toNatClampNeg ((gI μ71 399 y73.toNatClampNeg) + 1)) fun μ76 => vp_in y73 4 ∧ vp_in p4 96 ∧ G12_flag (gI μ76 374 p4.toNatClampNeg) μ76 (fun r80 μ79 => vp_in y73 4 ∧ Bd (sI μ79 400 y73.toNatClampNeg ((gI μ76 400 y73.toNatClampNeg) + r80)) fun μ82 => K57 ((p4 + 1), μ82)))
def G12_both_L57  (p1 : Int32)  (Q : Int32 → MM → Prop) (K57 : Int32 × MM → Prop) (x : Int32 × MM) : Prop :=
  (((gI x.2 358 12) ≤ x.1 → Lp (G12_both_L140 Q) (0, x.2)) ∧ (¬ ((gI x.2 358 12) ≤ x.1) → vp_in x.1 96 ∧ (((gI x.2 373 x.1.toNatClampNeg) = 0 → K57 ((x.1 + 1), x.2)) ∧ (¬ ((gI x.2 373 x.1.toNatClampNeg) = 0) → G12_peopleOf x.1 x.2 (fun r68 μ67 => vp_in x.1 96 ∧ ((p1 ≤ (gI μ67 369 x.1.toNatClampNeg) → G12_both_J100 p1 x.1 0 (2 * r68) μ67 K57 Q) ∧ (¬ (p1 ≤ (gI μ67 369 x.1.toNatClampNeg)) → G12_both_J100 p1 x.1 1 (2 * r68) μ67 K57 Q)))))))
def G12_both_L32  (p1 : Int32)  (Q : Int32 → MM → Prop) (K32 : Int32 × MM → Prop) (x : Int32 × MM) : Prop :=
  ((4 ≤ x.1 → Lp (G12_both_L57 p1 Q) (0, x.2)) ∧ (¬ (4 ≤ x.1) → vp_in x.1 4 ∧ Bd (sI x.2 399 x.1.toNatClampNeg 0) fun μ84 => vp_in x.1 4 ∧ Bd (sI μ84 400 x.1.toNatClampNeg 0) fun μ86 => K32 ((x.1 + 1), μ86)))
def G12_both (v1 : Int32) (μ : MM) (Q : Int32 → MM → Prop) : Prop :=
  Bd (sI μ 358 0 0) fun μ42 => G12_in (v1.toInt64) 1 99 μ42 (fun r44 μ43 => ((¬ r44 = 0 → Lp (G12_both_L32 v1 Q) (0, μ43)) ∧ (r44 = 0 → Q (-1) μ43)))
def G12_byWhat (v1 : Int32) (v2 : Int32) (μ : MM) (Q : Int32 → MM → Prop) : Prop :=
  ((¬ v1 = 0 → ((¬ v1 = 1 → ((¬ v1 = 2 → vp_in v2 96 ∧ Q (gI μ 370 v2.toNatClampNeg) μ) ∧ (v1 = 2 → vp_in v2 96 ∧ vp_in (gI μ 367 v2.toNatClampNeg) 24 ∧ Q (gI μ 365 ((gI μ 367 v2.toNatClampNeg).toNatClampNeg)) μ))) ∧ (v1 = 1 → vp_in v2 96 ∧ vp_in (gI μ 367 v2.toNatClampNeg) 24 ∧ Q (gI μ 364 ((gI μ 367 v2.toNatClampNeg).toNatClampNeg)) μ))) ∧ (v1 = 0 → vp_in v2 96 ∧ Q (gI μ 371 v2.toNatClampNeg) μ))
def G12_countsBy_L29  (p1 : Int32) (p2 : Int32)  (Q : MM → Prop) (K29 : Int32 × MM → Prop) (x : Int32 × MM) : Prop :=
  (((gI x.2 358 12) ≤ x.1 → Q x.2) ∧ (¬ ((gI x.2 358 12) ≤ x.1) → vp_in x.1 96 ∧ (((gI x.2 373 x.1.toNatClampNeg) = 0 → K29 ((x.1 + 1), x.2)) ∧ (¬ ((gI x.2 373 x.1.toNatClampNeg) = 0) → G12_byWhat p1 x.1 x.2 (fun r26 μ25 => ((¬ r26 = p2 → K29 ((x.1 + 1), μ25)) ∧ (r26 = p2 → G12_peopleOf x.1 μ25 (fun r29 μ28 => vp_in r29 2 ∧ vp_in r29 2 ∧ Bd (sI μ28 381 r29.toNatClampNeg ((gI μ28 381 r29.toNatClampNeg) + 1)) fun μ32 => G12_peopleOf x.1 μ32 (fun r34 μ33 => vp_in r34 2 ∧ vp_in x.1 96 ∧ G12_flag (gI μ33 374 x.1.toNatClampNeg) μ33 (fun r38 μ37 => vp_in r34 2 ∧ Bd (sI μ37 382 r34.toNatClampNeg ((gI μ33 382 r34.toNatClampNeg) + r38)) fun μ40 => K29 ((x.1 + 1), μ40)))))))))))
def G12_countsBy_L2  (p1 : Int32) (p2 : Int32)  (Q : MM → Prop) (K2 : Int32 × MM → Prop) (x : Int32 × MM) : Prop :=
  ((2 ≤ x.1 → Lp (G12_countsBy_L29 p1 p2 Q) (0, x.2)) ∧ (¬ (2 ≤ x.1) → vp_in x.1 2 ∧ Bd (sI x.2 381 x.1.toNatClampNeg 0) fun μ42 => vp_in x.1 2 ∧ Bd (sI μ42 382 x.1.toNatClampNeg 0) fun μ44 => K2 ((x.1 + 1), μ44)))
def G12_countsBy (v1 : Int32) (v2 : Int32) (μ : MM) (Q : MM → Prop) : Prop :=
  Lp (G12_countsBy_L2 v1 v2 Q) (0, μ)
def G12_sums (v1 : Int64) (v3 : Int64) (μ : MM) (Q : MM → Prop) : Prop :=
  G12_common (gJ μ 358 60) v3 μ (fun r13 μ12 => ¬ r13 = 0 ∧ ¬ r13 = 0 ∧ Bd (((gJ μ12 358 59) * (v3 / r13)) + (v1 * ((gJ μ12 358 60) / r13))) fun y16 => ¬ r13 = 0 ∧ Bd (((gJ μ12 358 60) / r13) * v3) fun y18 => G12_common y16 y18 μ12 (fun r20 μ19 => ¬ r20 = 0 ∧ Bd (sJ μ19 358 59 (y16 / r20)) fun μ22 => ¬ r20 = 0 ∧ Bd (sJ μ22 358 60 (y18 / r20)) fun μ24 => Q μ24))
def G12_explains_L33  (p1 : Int32)  (Q : Int32 → MM → Prop) (K33 : Int32 × Int32 × MM → Prop) (x : Int32 × Int32 × MM) : Prop :=
  ((10 ≤ x.2.1 → ((¬ x.1 = 0 → G12_common (gJ x.2.2 358 59) ((gJ x.2.2 358 60) * (x.1.toInt64)) x.2.2 (fun r48 μ47 => ¬ r48 = 0 ∧ Bd ((gJ μ47 358 59) / r48) fun y50 => ¬ r48 = 0 ∧ Bd (((gJ μ47 358 60) * (x.1.toInt64)) / r48) fun y52 => G12_counts (-1) (-1) μ47 (fun μ53 => Bd (sJ μ53 358 59 ((((gI μ53 382 0) * (gI μ53 381 1)) - ((gI μ53 382 1) * (gI μ53 381 0))).toInt64)) fun μ54 => Bd (sJ μ54 358 60 (((gI μ54 381 0).toInt64) * ((gI μ54 381 1).toInt64))) fun μ55 => G12_sums (-y50) y52 μ55 (fun μ56 => Bd (sI μ56 358 1 0) fun μ57 => G12_enters y50 μ57 (fun μ58 => G12_enters y52 μ58 (fun μ59 => G12_enters (gJ μ59 358 59) μ59 (fun μ60 => G12_enters (gJ μ60 358 60) μ60 (fun μ61 => Q 0 μ61)))))))) ∧ (x.1 = 0 → Q (-2) x.2.2))) ∧ (¬ (10 ≤ x.2.1) → G12_countsBy p1 x.2.1 x.2.2 (fun μ62 => G12_areBoth μ62 (fun r64 μ63 => ((r64 = 0 → K33 (x.1, (x.2.1 + 1), μ63)) ∧ (¬ (r64 = 0) → G12_sums (((((gI μ63 382 0) * (gI μ63 381 1)) - ((gI μ63 382 1) * (gI μ63 381 0))).toInt64) * (((gI μ63 381 0) + (gI μ63 381 1)).toInt64)) (((gI μ63 381 0).toInt64) * ((gI μ63 381 1).toInt64)) μ63 (fun μ66 => Bd (x.1 + ((gI μ66 381 0) + (gI μ66 381 1))) fun y67 => K33 (y67, (x.2.1 + 1), μ66))))))))
def G12_explains (v1 : Int32) (μ : MM) (Q : Int32 → MM → Prop) : Prop :=
  Bd (sI μ 358 0 0) fun μ39 => G12_in (v1.toInt64) 0 3 μ39 (fun r41 μ40 => ((¬ r41 = 0 → Bd (sJ μ40 358 59 0) fun μ43 => Bd (sJ μ43 358 60 1) fun μ44 => Lp (G12_explains_L33 v1 Q) (0, 0, μ44)) ∧ (r41 = 0 → Q (-1) μ40)))
def G12_join_L156  (p2 : Int32) (p3 : Int64) (p5 : Int64)  (Q : Int32 → MM → Prop) (K156 : Int32 × MM → Prop) (x : Int32 × MM) : Prop :=
  ((4 ≤ x.1 → Bd (sI x.2 358 1 0) fun μ43 => G12_entersFraction ((gJ μ43 358 59) * p5) ((gJ μ43 358 60) * p3) μ43 (fun μ44 => Q 0 μ44)) ∧ (¬ (4 ≤ x.1) → G12_countsBy p2 x.1 x.2 (fun μ45 => ((((gI μ45 381 0) + (gI μ45 381 1)) ≤ 0 → K156 ((x.1 + 1), μ45)) ∧ (¬ (((gI μ45 381 0) + (gI μ45 381 1)) ≤ 0) → G12_sums (((gI μ45 382 0).toInt64) * (((gI μ45 381 1) - (gI μ45 382 1)).toInt64)) (((gI μ45 381 0) + (gI μ45 381 1)).toInt64) μ45 (fun μ47 => K156 ((x.1 + 1), μ47)))))))
def G12_join_L50  (p2 : Int32)  (Q : Int32 → MM → Prop) (K50 : Int32 × MM → Prop) (x : Int32 × MM) : Prop :=
  ((4 ≤ x.1 → Bd (gJ x.2 358 59) fun y37 => Bd (gJ x.2 358 60) fun y38 => ((¬ (lg_cmp y37 0) = 0 → Bd (sJ x.2 358 59 0) fun μ40 => Bd (sJ μ40 358 60 1) fun μ41 => Lp (G12_join_L156 p2 y37 y38 Q) (0, μ41)) ∧ ((lg_cmp y37 0) = 0 → Q (-2) x.2))) ∧ (¬ (4 ≤ x.1) → G12_countsBy p2 x.1 x.2 (fun μ48 => ((((gI μ48 381 0) + (gI μ48 381 1)) ≤ 0 → K50 ((x.1 + 1), μ48)) ∧ (¬ (((gI μ48 381 0) + (gI μ48 381 1)) ≤ 0) → G12_sums ((((gI μ48 381 0) - (gI μ48 382 0)).toInt64) * ((gI μ48 382 1).toInt64)) (((gI μ48 381 0) + (gI μ48 381 1)).toInt64) μ48 (fun μ50 => K50 ((x.1 + 1), μ50)))))))
def G12_join (v1 : Int32) (μ : MM) (Q : Int32 → MM → Prop) : Prop :=
  Bd (sI μ 358 0 0) fun μ28 => G12_in (v1.toInt64) 0 2 μ28 (fun r30 μ29 => ((¬ r30 = 0 → ((¬ v1 = 0 → ((¬ v1 = 1 → Bd (sJ μ29 358 59 0) fun μ34 => Bd (sJ μ34 358 60 1) fun μ35 => Lp (G12_join_L50 0 Q) (0, μ35)) ∧ (v1 = 1 → Bd (sJ μ29 358 59 0) fun μ51 => Bd (sJ μ51 358 60 1) fun μ52 => Lp (G12_join_L50 2 Q) (0, μ52)))) ∧ (v1 = 0 → Bd (sJ μ29 358 59 0) fun μ53 => Bd (sJ μ53 358 60 1) fun μ54 => Lp (G12_join_L50 1 Q) (0, μ54)))) ∧ (r30 = 0 → Q (-1) μ29)))
def G12_bounds_J108  (p1 : Int32) (p2 : Int32) (p3 : Int32) (p5 : Int32) (q0 : Int32) (q1 : Int32) (μ : MM) (K27 : Int32 × Int32 × Int32 × Int32 × MM → Prop) (Q : Int32 → MM → Prop) : Prop :=
  G12_flag q0 μ (fun r39 μ38 => Bd (q1 + r39) fun y40 => K27 (p2, p3, y40, (p5 + 1), μ38))
def G12_bounds_J107  (p1 : Int32) (p2 : Int32) (p3 : Int32) (p5 : Int32) (q0 : Int32) (μ : MM) (K27 : Int32 × Int32 × Int32 × Int32 × MM → Prop) (Q : Int32 → MM → Prop) : Prop :=
  G12_bounds_J108 p1 p2 p3 p5 0 q0 μ K27 Q
def G12_bounds_J76  (p1 : Int32) (p2 : Int32) (p4 : Int32) (p5 : Int32) (q0 : Int32) (q1 : Int32) (μ : MM) (K27 : Int32 × Int32 × Int32 × Int32 × MM → Prop) (Q : Int32 → MM → Prop) : Prop :=
  G12_flag q0 μ (fun r34 μ33 => Bd (q1 + r34) fun y35 => vp_in p5 96 ∧ (((gI μ33 374 p5.toNatClampNeg) = 0 → G12_bounds_J107 p1 p2 y35 p5 p4 μ33 K27 Q) ∧ (¬ ((gI μ33 374 p5.toNatClampNeg) = 0) → vp_in p5 96 ∧ ((¬ (gI μ33 375 p5.toNatClampNeg) = 0 → G12_bounds_J107 p1 p2 y35 p5 p4 μ33 K27 Q) ∧ ((gI μ33 375 p5.toNatClampNeg) = 0 → G12_bounds_J108 p1 p2 y35 p5 1 p4 μ33 K27 Q)))))
def G12_bounds_L27  (p1 : Int32)  (Q : Int32 → MM → Prop) (K27 : Int32 × Int32 × Int32 × Int32 × MM → Prop) (x : Int32 × Int32 × Int32 × Int32 × MM) : Prop :=
  (((gI x.2.2.2.2 358 12) ≤ x.2.2.2.1 → ((¬ x.1 = 0 → Bd (sI x.2.2.2.2 358 1 0) fun μ23 => G12_entersFraction (x.2.1.toInt64) (x.1.toInt64) μ23 (fun μ24 => G12_entersFraction ((x.2.1 + x.2.2.1).toInt64) (x.1.toInt64) μ24 (fun μ25 => Q x.2.2.1 μ25))) ∧ (x.1 = 0 → Q (-2) x.2.2.2.2))) ∧ (¬ ((gI x.2.2.2.2 358 12) ≤ x.2.2.2.1) → vp_in x.2.2.2.1 96 ∧ (((gI x.2.2.2.2 373 x.2.2.2.1.toNatClampNeg) = 0 → K27 (x.1, x.2.1, x.2.2.1, (x.2.2.2.1 + 1), x.2.2.2.2)) ∧ (¬ ((gI x.2.2.2.2 373 x.2.2.2.1.toNatClampNeg) = 0) → G12_peopleOf x.2.2.2.1 x.2.2.2.2 (fun r29 μ28 => ((¬ r29 = p1 → K27 (x.1, x.2.1, x.2.2.1, (x.2.2.2.1 + 1), μ28)) ∧ (r29 = p1 → vp_in x.2.2.2.1 96 ∧ ((¬ (gI μ28 375 x.2.2.2.1.toNatClampNeg) = 1 → G12_bounds_J76 p1 (x.1 + 1) x.2.2.1 x.2.2.2.1 0 x.2.1 μ28 K27 Q) ∧ ((gI μ28 375 x.2.2.2.1.toNatClampNeg) = 1 → G12_bounds_J76 p1 (x.1 + 1) x.2.2.1 x.2.2.2.1 1 x.2.1 μ28 K27 Q)))))))))
def G12_bounds (v1 : Int32) (μ : MM) (Q : Int32 → MM → Prop) : Prop :=
  Bd (sI μ 358 0 0) fun μ17 => G12_in (v1.toInt64) 0 1 μ17 (fun r19 μ18 => ((¬ r19 = 0 → Lp (G12_bounds_L27 v1 Q) (0, 0, 0, 0, μ18)) ∧ (r19 = 0 → Q (-1) μ18)))
def G12_countsWorth_L16  (p1 : Int32) (p2 : Int32)  (Q : MM → Prop) (K16 : Int32 × MM → Prop) (x : Int32 × MM) : Prop :=
  (((gI x.2 358 12) ≤ x.1 → Q x.2) ∧ (¬ ((gI x.2 358 12) ≤ x.1) → vp_in x.1 96 ∧ (((gI x.2 373 x.1.toNatClampNeg) = 0 → K16 ((x.1 + 1), x.2)) ∧ (¬ ((gI x.2 373 x.1.toNatClampNeg) = 0) → G12_peopleOf x.1 x.2 (fun r26 μ25 => ((¬ r26 = p1 → K16 ((x.1 + 1), μ25)) ∧ (r26 = p1 → vp_in x.1 96 ∧ (((gI μ25 369 x.1.toNatClampNeg) < p2 → K16 ((x.1 + 1), μ25)) ∧ (¬ ((gI μ25 369 x.1.toNatClampNeg) < p2) → vp_in p1 2 ∧ vp_in p1 2 ∧ Bd (sI μ25 381 p1.toNatClampNeg ((gI μ25 381 p1.toNatClampNeg) + 1)) fun μ32 => vp_in p1 2 ∧ vp_in x.1 96 ∧ G12_flag (gI μ32 374 x.1.toNatClampNeg) μ32 (fun r36 μ35 => vp_in p1 2 ∧ Bd (sI μ35 382 p1.toNatClampNeg ((gI μ32 382 p1.toNatClampNeg) + r36)) fun μ38 => K16 ((x.1 + 1), μ38)))))))))))
def G12_countsWorth (v1 : Int32) (v2 : Int32) (μ : MM) (Q : MM → Prop) : Prop :=
  vp_in v1 2 ∧ Bd (sI μ 381 v1.toNatClampNeg 0) fun μ19 => vp_in v1 2 ∧ Bd (sI μ19 382 v1.toNatClampNeg 0) fun μ21 => Lp (G12_countsWorth_L16 v1 v2 Q) (0, μ21)
def G12_years_L27  (p1 : Int32)  (Q : Int32 → MM → Prop) (K27 : Int32 × MM → Prop) (x : Int32 × MM) : Prop :=
  ((99 < x.1 → Q (-2) x.2) ∧ (¬ (99 < x.1) → G12_countsWorth 1 (p1 + x.1) x.2 (fun μ22 => G12_areBoth μ22 (fun r24 μ23 => ((r24 = 0 → K27 ((x.1 + 1), μ23)) ∧ (¬ (r24 = 0) → ((((gI μ23 382 1) * (gI μ23 381 0)) < ((gI μ23 382 0) * (gI μ23 381 1)) → K27 ((x.1 + 1), μ23)) ∧ (¬ (((gI μ23 382 1) * (gI μ23 381 0)) < ((gI μ23 382 0) * (gI μ23 381 1))) → Bd (sI μ23 358 1 0) fun μ27 => G12_entersFraction ((gI μ27 382 1).toInt64) ((gI μ27 381 1).toInt64) μ27 (fun μ28 => Q x.1 μ28)))))))))
def G12_years (v1 : Int32) (μ : MM) (Q : Int32 → MM → Prop) : Prop :=
  Bd (sI μ 358 0 0) fun μ16 => G12_in (v1.toInt64) 0 99 μ16 (fun r18 μ17 => ((¬ r18 = 0 → G12_countsWorth 0 v1 μ17 (fun μ20 => Lp (G12_years_L27 v1 Q) (0, μ20))) ∧ (r18 = 0 → Q (-1) μ17)))
def G12_mornings_J175  (p1 : Int32) (p2 : Int32) (p3 : Int32) (p4 : Int32) (p7 : Int32) (p8 : Int32) (μ : MM) (K55 : Int32 × Int32 × Int32 × Int32 × MM → Prop) (Q : Int32 → MM → Prop) : Prop :=
  K55 (p4, p7, p8, (p7 + 1), μ)
def G12_mornings_J146  (p1 : Int32) (p2 : Int32) (p3 : Int32) (p4 : Int32) (p5 : Int32) (p6 : Int32) (p7 : Int32) (p9 : Int32) (q0 : Int32) (q1 : Int32) (q2 : Int32) (μ : MM) (K55 : Int32 × Int32 × Int32 × Int32 × MM → Prop) (K70 : Int32 × Int32 × MM → Prop) (Q : Int32 → MM → Prop) : Prop :=
  Bd (q2 + (q1 + q0)) fun y42 => K70 (y42, (p9 + 1), μ)
def G12_mornings_J145  (p1 : Int32) (p2 : Int32) (p3 : Int32) (p4 : Int32) (p5 : Int32) (p6 : Int32) (p7 : Int32) (p9 : Int32) (q0 : Int32) (q1 : Int32) (μ : MM) (K55 : Int32 × Int32 × Int32 × Int32 × MM → Prop) (K70 : Int32 × Int32 × MM → Prop) (Q : Int32 → MM → Prop) : Prop :=
  G12_mornings_J146 p1 p2 p3 p4 p5 p6 p7 p9 0 q0 q1 μ K55 K70 Q
def G12_mornings_J119  (p1 : Int32) (p2 : Int32) (p3 : Int32) (p4 : Int32) (p5 : Int32) (p6 : Int32) (p7 : Int32) (p9 : Int32) (q0 : Int32) (q1 : Int32) (q2 : Int32) (μ : MM) (K55 : Int32 × Int32 × Int32 × Int32 × MM → Prop) (K70 : Int32 × Int32 × MM → Prop) (Q : Int32 → MM → Prop) : Prop :=
  vp_in p9 96 ∧ (((gI μ 374 p9.toNatClampNeg) = 0 → G12_mornings_J145 p1 p2 p3 p4 p5 p6 p7 p9 (q1 + q0) q2 μ K55 K70 Q) ∧ (¬ ((gI μ 374 p9.toNatClampNeg) = 0) → vp_in p9 96 ∧ ((¬ (gI μ 375 p9.toNatClampNeg) = 2 → G12_mornings_J145 p1 p2 p3 p4 p5 p6 p7 p9 (q1 + q0) q2 μ K55 K70 Q) ∧ ((gI μ 375 p9.toNatClampNeg) = 2 → G12_mornings_J146 p1 p2 p3 p4 p5 p6 p7 p9 p3 (q1 + q0) q2 μ K55 K70 Q))))
def G12_mornings_L70  (p1 : Int32) (p2 : Int32) (p3 : Int32) (p4 : Int32) (p5 : Int32) (p6 : Int32) (p7 : Int32) (K55 : Int32 × Int32 × Int32 × Int32 × MM → Prop) (Q : Int32 → MM → Prop) (K70 : Int32 × Int32 × MM → Prop) (x : Int32 × Int32 × MM) : Prop :=
  (((gI x.2.2 358 12) ≤ x.2.1 → Bd (p4 + x.1) fun y31 => ((p5 < 0 → G12_mornings_J175 p1 p2 p3 y31 p7 x.1 x.2.2 K55 Q) ∧ (¬ (p5 < 0) → ((x.1 ≤ p6 → K55 (y31, p5, p6, (p7 + 1), x.2.2)) ∧ (¬ (x.1 ≤ p6) → G12_mornings_J175 p1 p2 p3 y31 p7 x.1 x.2.2 K55 Q))))) ∧ (¬ ((gI x.2.2 358 12) ≤ x.2.1) → vp_in x.2.1 96 ∧ ((¬ (gI x.2.2 367 x.2.1.toNatClampNeg) = p7 → K70 (x.1, (x.2.1 + 1), x.2.2)) ∧ ((gI x.2.2 367 x.2.1.toNatClampNeg) = p7 → vp_in x.2.1 96 ∧ (((gI x.2.2 373 x.2.1.toNatClampNeg) = 0 → K70 (x.1, (x.2.1 + 1), x.2.2)) ∧ (¬ ((gI x.2.2 373 x.2.1.toNatClampNeg) = 0) → vp_in x.2.1 96 ∧ (((gI x.2.2 374 x.2.1.toNatClampNeg) = 0 → G12_mornings_J119 p1 p2 p3 p4 p5 p6 p7 x.2.1 0 p1 x.1 x.2.2 K55 K70 Q) ∧ (¬ ((gI x.2.2 374 x.2.1.toNatClampNeg) = 0) → G12_mornings_J119 p1 p2 p3 p4 p5 p6 p7 x.2.1 p2 p1 x.1 x.2.2 K55 K70 Q))))))))
def G12_mornings_L55  (p1 : Int32) (p2 : Int32) (p3 : Int32)  (Q : Int32 → MM → Prop) (K55 : Int32 × Int32 × Int32 × Int32 × MM → Prop) (x : Int32 × Int32 × Int32 × Int32 × MM) : Prop :=
  (((gI x.2.2.2.2 358 8) ≤ x.2.2.2.1 → Bd (sI x.2.2.2.2 358 1 0) fun μ27 => G12_enters (x.2.1.toInt64) μ27 (fun μ28 => G12_enters (x.2.2.1.toInt64) μ28 (fun μ29 => Q x.1 μ29))) ∧ (¬ ((gI x.2.2.2.2 358 8) ≤ x.2.2.2.1) → Lp (G12_mornings_L70 p1 p2 p3 x.1 x.2.1 x.2.2.1 x.2.2.2.1 K55 Q) (0, 0, x.2.2.2.2)))
def G12_mornings (v1 : Int32) (v2 : Int32) (v3 : Int32) (μ : MM) (Q : Int32 → MM → Prop) : Prop :=
  Bd (sI μ 358 0 0) fun μ16 => G12_in (v1.toInt64) 0 99 μ16 (fun r18 μ17 => ((r18 = 0 → Q (-1) μ17) ∧ (¬ (r18 = 0) → G12_in (v2.toInt64) 0 99 μ17 (fun r21 μ20 => ((r21 = 0 → Q (-1) μ20) ∧ (¬ (r21 = 0) → G12_in (v3.toInt64) 0 999 μ20 (fun r24 μ23 => ((¬ r24 = 0 → Lp (G12_mornings_L55 v1 v2 v3 Q) (0, (-1), 0, 0, μ23)) ∧ (r24 = 0 → Q (-1) μ23)))))))))
def G12_asked (v1 : Int32) (v2 : Int32) (v3 : Int32) (μ : MM) (Q : Int32 → MM → Prop) : Prop :=
  Bd (sI μ 358 0 0) fun μ15 => G12_isLetter v1 μ15 (fun r17 μ16 => ((r17 = 0 → Q (-1) μ16) ∧ (¬ (r17 = 0) → G12_isLetter v2 μ16 (fun r20 μ19 => ((r20 = 0 → Q (-1) μ19) ∧ (¬ (r20 = 0) → ((v1 = v2 → Q (-1) μ19) ∧ (¬ (v1 = v2) → G12_in (v3.toInt64) 0 2 μ19 (fun r24 μ23 => ((r24 = 0 → Q (-1) μ23) ∧ (¬ (r24 = 0) → ((¬ (gI μ23 358 61) = 40 → vp_in (gI μ23 358 61) 40 ∧ Bd (sI μ23 401 ((gI μ23 358 61).toNatClampNeg) v1) fun μ28 => vp_in (gI μ28 358 61) 40 ∧ Bd (sI μ28 402 ((gI μ28 358 61).toNatClampNeg) v2) fun μ30 => vp_in (gI μ30 358 61) 40 ∧ Bd (sI μ30 403 ((gI μ30 358 61).toNatClampNeg) v3) fun μ32 => Bd (sI μ32 358 61 ((gI μ32 358 61) + 1)) fun μ33 => Q (gI μ33 358 61) μ33) ∧ ((gI μ23 358 61) = 40 → Q (-1) μ23)))))))))))))
def G12_isAgainst (v1 : Int32) (v2 : Int32) (v3 : Int32) (v4 : Int32) (μ : MM) (Q : Int32 → MM → Prop) : Prop :=
  G12_countsNone μ (fun μ6 => G12_worked v1 v2 μ6 (fun r8 μ7 => G12_worked v1 v3 μ7 (fun r10 μ9 => ((¬ v4 = 1 → ((¬ v4 = 2 → ((r8 = r10 → Q 0 μ9) ∧ (¬ (r8 = r10) → Q 1 μ9))) ∧ (v4 = 2 → ((r8 ≤ r10 → Q 0 μ9) ∧ (¬ (r8 ≤ r10) → Q 1 μ9))))) ∧ (v4 = 1 → ((r10 ≤ r8 → Q 0 μ9) ∧ (¬ (r10 ≤ r8) → Q 1 μ9)))))))
def G12_against_L4  (p1 : Int32)  (Q : Int32 → MM → Prop) (K4 : Int32 × Int32 × MM → Prop) (x : Int32 × Int32 × MM) : Prop :=
  (((gI x.2.2 358 61) ≤ x.2.1 → Q x.1 x.2.2) ∧ (¬ ((gI x.2.2 358 61) ≤ x.2.1) → vp_in x.2.1 40 ∧ vp_in x.2.1 40 ∧ vp_in x.2.1 40 ∧ G12_isAgainst p1 (gI x.2.2 401 x.2.1.toNatClampNeg) (gI x.2.2 402 x.2.1.toNatClampNeg) (gI x.2.2 403 x.2.1.toNatClampNeg) x.2.2 (fun r13 μ12 => G12_flag r13 μ12 (fun r15 μ14 => Bd (x.1 + r15) fun y16 => K4 (y16, (x.2.1 + 1), μ14)))))
def G12_against (v1 : Int32) (μ : MM) (Q : Int32 → MM → Prop) : Prop :=
  Lp (G12_against_L4 v1 Q) (0, 0, μ)
def G12_couldBe_J35  (p1 : Int32) (p3 : Int32) (q0 : Int32) (μ : MM) (K4 : Int32 × Int32 × MM → Prop) (Q : Int32 → MM → Prop) : Prop :=
  Bd (q0 ||| 0) fun y7 => K4 (y7, (p3 + 1), μ)
def G12_couldBe_L4  (p1 : Int32)  (Q : Int32 → MM → Prop) (K4 : Int32 × Int32 × MM → Prop) (x : Int32 × Int32 × MM) : Prop :=
  ((6 ≤ x.2.1 → Q x.1 x.2.2) ∧ (¬ (6 ≤ x.2.1) → vp_in x.2.1 13 ∧ (((gI x.2.2 378 x.2.1.toNatClampNeg) ≤ 0 → G12_couldBe_J35 p1 x.2.1 x.1 x.2.2 K4 Q) ∧ (¬ ((gI x.2.2 378 x.2.1.toNatClampNeg) ≤ 0) → G12_against x.2.1 x.2.2 (fun r9 μ8 => ((p1 < r9 → G12_couldBe_J35 p1 x.2.1 x.1 μ8 K4 Q) ∧ (¬ (p1 < r9) → Bd (x.1 ||| (1 <<< (x.2.1 &&& 31))) fun y11 => K4 (y11, (x.2.1 + 1), μ8))))))))
def G12_couldBe (v1 : Int32) (μ : MM) (Q : Int32 → MM → Prop) : Prop :=
  Lp (G12_couldBe_L4 v1 Q) (0, 0, μ)
def G12_pairs_J40  (p1 : Int32) (q0 : Int64) (μ : MM) (K12 : Int32 × MM → Prop) (Q : Int32 → MM → Prop) : Prop :=
  G12_enters q0 μ (fun μ16 => K12 ((p1 + 1), μ16))
def G12_pairs_L12    (Q : Int32 → MM → Prop) (K12 : Int32 × MM → Prop) (x : Int32 × MM) : Prop :=
  ((6 ≤ x.1 → G12_couldBe 0 x.2 (fun r13 μ12 => Q r13 μ12)) ∧ (¬ (6 ≤ x.1) → vp_in x.1 13 ∧ (((gI x.2 378 x.1.toNatClampNeg) ≤ 0 → G12_pairs_J40 x.1 (-1) x.2 K12 Q) ∧ (¬ ((gI x.2 378 x.1.toNatClampNeg) ≤ 0) → G12_against x.1 x.2 (fun r18 μ17 => G12_pairs_J40 x.1 (r18.toInt64) μ17 K12 Q)))))
def G12_pairs  (μ : MM) (Q : Int32 → MM → Prop) : Prop :=
  Bd (sI μ 358 0 0) fun μ9 => Bd (sI μ9 358 1 0) fun μ10 => Lp (G12_pairs_L12 Q) (0, μ10)
def G12_ask_J157  (p1 : Int32) (p5 : Int32) (p6 : Int32) (p7 : Int32) (μ : MM) (K40 : Int32 × Int32 × Int32 × Int32 × MM → Prop) (K55 : Int32 × Int32 × Int32 × Int32 × MM → Prop) (Q : Int32 → MM → Prop) : Prop :=
  K55 (p7, p5, p6, (p6 + 1), μ)
def G12_ask_J120  (p1 : Int32) (p2 : Int32) (p3 : Int32) (p4 : Int32) (p5 : Int32) (p6 : Int32) (p7 : Int32) (p8 : Int32) (p10 : Int32) (q0 : Int32) (q1 : Int32) (μ : MM) (K40 : Int32 × Int32 × Int32 × Int32 × MM → Prop) (K55 : Int32 × Int32 × Int32 × Int32 × MM → Prop) (K70 : Int32 × Int32 × MM → Prop) (K82 : Int32 × Int32 × MM → Prop) (Q : Int32 → MM → Prop) : Prop :=
  G12_flag q0 μ (fun r37 μ36 => Bd (q1 + r37) fun y38 => K82 (y38, (p10 + 1), μ36))
def G12_ask_J119  (p1 : Int32) (p2 : Int32) (p3 : Int32) (p4 : Int32) (p5 : Int32) (p6 : Int32) (p7 : Int32) (p8 : Int32) (p10 : Int32) (q0 : Int32) (μ : MM) (K40 : Int32 × Int32 × Int32 × Int32 × MM → Prop) (K55 : Int32 × Int32 × Int32 × Int32 × MM → Prop) (K70 : Int32 × Int32 × MM → Prop) (K82 : Int32 × Int32 × MM → Prop) (Q : Int32 → MM → Prop) : Prop :=
  G12_ask_J120 p1 p2 p3 p4 p5 p6 p7 p8 p10 0 q0 μ K40 K55 K70 K82 Q
def G12_ask_L82  (p1 : Int32) (p2 : Int32) (p3 : Int32) (p4 : Int32) (p5 : Int32) (p6 : Int32) (p7 : Int32) (p8 : Int32) (K40 : Int32 × Int32 × Int32 × Int32 × MM → Prop) (K55 : Int32 × Int32 × Int32 × Int32 × MM → Prop) (K70 : Int32 × Int32 × MM → Prop) (Q : Int32 → MM → Prop) (K82 : Int32 × Int32 × MM → Prop) (x : Int32 × Int32 × MM) : Prop :=
  ((6 ≤ x.2.1 → Bd (if p7 < x.1 then x.1 else p7) fun y32 => K70 (y32, (p8 + 1), x.2.2)) ∧ (¬ (6 ≤ x.2.1) → G12_has p1 x.2.1 x.2.2 (fun r34 μ33 => ((r34 = 0 → G12_ask_J119 p1 p2 p3 p4 p5 p6 p7 p8 x.2.1 x.1 μ33 K40 K55 K70 K82 Q) ∧ (¬ (r34 = 0) → G12_isAgainst x.2.1 p5 p6 p8 μ33 (fun r40 μ39 => ((¬ r40 = 0 → G12_ask_J119 p1 p2 p3 p4 p5 p6 p7 p8 x.2.1 x.1 μ39 K40 K55 K70 K82 Q) ∧ (r40 = 0 → G12_ask_J120 p1 p2 p3 p4 p5 p6 p7 p8 x.2.1 1 x.1 μ39 K40 K55 K70 K82 Q))))))))
def G12_ask_L70  (p1 : Int32) (p2 : Int32) (p3 : Int32) (p4 : Int32) (p5 : Int32) (p6 : Int32) (K40 : Int32 × Int32 × Int32 × Int32 × MM → Prop) (K55 : Int32 × Int32 × Int32 × Int32 × MM → Prop) (Q : Int32 → MM → Prop) (K70 : Int32 × Int32 × MM → Prop) (x : Int32 × Int32 × MM) : Prop :=
  ((3 ≤ x.2.1 → ((p2 < 0 → G12_ask_J157 p1 p5 p6 x.1 x.2.2 K40 K55 Q) ∧ (¬ (p2 < 0) → ((p2 ≤ x.1 → K55 (p2, p3, p4, (p6 + 1), x.2.2)) ∧ (¬ (p2 ≤ x.1) → G12_ask_J157 p1 p5 p6 x.1 x.2.2 K40 K55 Q))))) ∧ (¬ (3 ≤ x.2.1) → Lp (G12_ask_L82 p1 p2 p3 p4 p5 p6 x.1 x.2.1 K40 K55 K70 Q) (0, 0, x.2.2)))
def G12_ask_L55  (p1 : Int32) (p5 : Int32) (K40 : Int32 × Int32 × Int32 × Int32 × MM → Prop) (Q : Int32 → MM → Prop) (K55 : Int32 × Int32 × Int32 × Int32 × MM → Prop) (x : Int32 × Int32 × Int32 × Int32 × MM) : Prop :=
  (((gI x.2.2.2.2 358 12) ≤ x.2.2.2.1 → K40 (x.1, x.2.1, x.2.2.1, (p5 + 1), x.2.2.2.2)) ∧ (¬ ((gI x.2.2.2.2 358 12) ≤ x.2.2.2.1) → Lp (G12_ask_L70 p1 x.1 x.2.1 x.2.2.1 p5 x.2.2.2.1 K40 K55 Q) (0, 0, x.2.2.2.2)))
def G12_ask_L40  (p1 : Int32)  (Q : Int32 → MM → Prop) (K40 : Int32 × Int32 × Int32 × Int32 × MM → Prop) (x : Int32 × Int32 × Int32 × Int32 × MM) : Prop :=
  (((gI x.2.2.2.2 358 12) ≤ x.2.2.2.1 → Bd (sI x.2.2.2.2 358 1 0) fun μ23 => G12_enters (x.2.1.toInt64) μ23 (fun μ24 => G12_enters (x.2.2.1.toInt64) μ24 (fun μ25 => Q x.1 μ25))) ∧ (¬ ((gI x.2.2.2.2 358 12) ≤ x.2.2.2.1) → Bd (x.2.2.2.1 + 1) fun y26 => Lp (G12_ask_L55 p1 x.2.2.2.1 K40 Q) (x.1, x.2.1, x.2.2.1, y26, x.2.2.2.2)))
def G12_ask  (μ : MM) (Q : Int32 → MM → Prop) : Prop :=
  Bd (sI μ 358 0 0) fun μ15 => G12_couldBe 0 μ15 (fun r17 μ16 => GJ6_bitCount_0f7a4 r17 μ16 (fun r19 μ18 => ((r19 < 2 → Q (-2) μ18) ∧ (¬ (r19 < 2) → ((2 ≤ (gI μ18 358 12) → Lp (G12_ask_L40 r17 Q) ((-1), 0, 0, 0, μ18)) ∧ (¬ (2 ≤ (gI μ18 358 12)) → Q (-2) μ18))))))
def G12_nearly (v1 : Int32) (μ : MM) (Q : Int32 → MM → Prop) : Prop :=
  Bd (sI μ 358 0 0) fun μ6 => G12_in (v1.toInt64) 0 40 μ6 (fun r8 μ7 => ((r8 = 0 → Q (-1) μ7) ∧ (¬ (r8 = 0) → G12_couldBe v1 μ7 (fun r11 μ10 => Q r11 μ10))))
def G12_laysAt_L2 (a2 : Nat) (p1 : Int32)  (Q : MM → Prop) (K2 : Int32 × MM → Prop) (x : Int32 × MM) : Prop :=
  ((80 ≤ x.1 → Q x.2) ∧ (¬ (80 ≤ x.1) → vp_in 0 (ln a2) ∧ (((gI x.2 a2 0) < x.1 → vp_in ((80 * p1) + x.1) 1360 ∧ Bd (sI x.2 404 (((80 * p1) + x.1).toNatClampNeg) 0) fun μ9 => K2 ((x.1 + 1), μ9)) ∧ (¬ ((gI x.2 a2 0) < x.1) → vp_in x.1 (ln a2) ∧ vp_in ((80 * p1) + x.1) 1360 ∧ Bd (sI x.2 404 (((80 * p1) + x.1).toNatClampNeg) (gI x.2 a2 x.1.toNatClampNeg)) fun μ12 => K2 ((x.1 + 1), μ12)))))
def G12_laysAt (v1 : Int32) (a2 : Nat) (μ : MM) (Q : MM → Prop) : Prop :=
  Lp (G12_laysAt_L2 a2 v1 Q) (0, μ)
def G12_takesFrom_L2 (a2 : Nat) (p1 : Int32)  (Q : MM → Prop) (K2 : Int32 × MM → Prop) (x : Int32 × MM) : Prop :=
  ((80 ≤ x.1 → Q x.2) ∧ (¬ (80 ≤ x.1) → vp_in ((80 * p1) + x.1) 1360 ∧ vp_in x.1 (ln a2) ∧ Bd (sI x.2 a2 x.1.toNatClampNeg (gI x.2 404 (((80 * p1) + x.1).toNatClampNeg))) fun μ7 => K2 ((x.1 + 1), μ7)))
def G12_takesFrom (v1 : Int32) (a2 : Nat) (μ : MM) (Q : MM → Prop) : Prop :=
  Lp (G12_takesFrom_L2 a2 v1 Q) (0, μ)
def G12_powers_J29  (p1 : Int32) (p2 : Int32) (p3 : Int32) (p4 : Int32) (q0 : Int64) (μ : MM) (K3 : Int32 × MM → Prop) (Q : MM → Prop) : Prop :=
  G12_times 405 q0 μ (fun μ4 => K3 ((p4 + 1), μ4))
def G12_powers_L3  (p1 : Int32) (p2 : Int32) (p3 : Int32)  (Q : MM → Prop) (K3 : Int32 × MM → Prop) (x : Int32 × MM) : Prop :=
  ((p3 ≤ x.1 → Q x.2) ∧ (¬ (p3 ≤ x.1) → ((p2 ≤ x.1 → G12_powers_J29 p1 p2 p3 x.1 ((100 - p1).toInt64) x.2 K3 Q) ∧ (¬ (p2 ≤ x.1) → G12_powers_J29 p1 p2 p3 x.1 (p1.toInt64) x.2 K3 Q))))
def G12_powers (v1 : Int32) (v2 : Int32) (v3 : Int32) (μ : MM) (Q : MM → Prop) : Prop :=
  Lp (G12_powers_L3 v1 v2 v3 Q) (0, μ)
def G12_chances_L115    (Q : MM → Prop) (K115 : Int32 × MM → Prop) (x : Int32 × MM) : Prop :=
  ((x.1 < 0 → Q x.2) ∧ (¬ (x.1 < 0) → G12_takesFrom x.1 392 x.2 (fun μ18 => G12_takesFrom (x.1 + 1) 405 μ18 (fun μ19 => G12_adds 392 405 μ19 (fun μ20 => G12_laysAt x.1 392 μ20 (fun μ21 => K115 ((x.1 + (-1)), μ21)))))))
def G12_chances_L22  (p1 : Int32) (p2 : Int32) (p3 : Int32) (p4 : Int32) (K3 : Int32 × MM → Prop) (Q : MM → Prop) (K22 : Int32 × MM → Prop) (x : Int32 × MM) : Prop :=
  ((p1 < x.1 → G12_laysAt p4 392 x.2 (fun μ24 => K3 ((p4 + 1), μ24))) ∧ (¬ (p1 < x.1) → G12_isSmall 405 1 x.2 (fun μ25 => G12_powers p2 x.1 p1 μ25 (fun μ26 => G12_powers p3 (x.1 - p4) p1 μ26 (fun μ27 => G12_choices p1 x.1 μ27 (fun r29 μ28 => G12_choices p1 (x.1 - p4) μ28 (fun r31 μ30 => G12_times 405 (r29 * r31) μ30 (fun μ32 => G12_adds 392 405 μ32 (fun μ33 => K22 ((x.1 + 1), μ33))))))))))
def G12_chances_L3  (p1 : Int32) (p2 : Int32) (p3 : Int32)  (Q : MM → Prop) (K3 : Int32 × MM → Prop) (x : Int32 × MM) : Prop :=
  ((16 < x.1 → Lp (G12_chances_L115 Q) (15, x.2)) ∧ (¬ (16 < x.1) → G12_isSmall 392 0 x.2 (fun μ22 => Lp (G12_chances_L22 p1 p2 p3 x.1 K3 Q) (x.1, μ22))))
def G12_chances (v1 : Int32) (v2 : Int32) (v3 : Int32) (μ : MM) (Q : MM → Prop) : Prop :=
  Lp (G12_chances_L3 v1 v2 v3 Q) (0, μ)
def G12_chanceOf_L37  (p2 : Int32)  (Q : Int32 → MM → Prop) (K37 : Int64 × Int32 × MM → Prop) (x : Int64 × Int32 × MM) : Prop :=
  ((x.2.1 ≤ p2 → Q (x.1.toInt32) x.2.2) ∧ (¬ (x.2.1 ≤ p2) → vp_in x.2.1 80 ∧ Bd ((x.1 * 10000) + ((gI x.2.2 392 x.2.1.toNatClampNeg).toInt64)) fun y11 => K37 (y11, (x.2.1 + (-1)), x.2.2)))
def G12_chanceOf (v1 : Int32) (v2 : Int32) (μ : MM) (Q : Int32 → MM → Prop) : Prop :=
  ((v1 ≤ 16 → G12_takesFrom v1 392 μ (fun μ6 => G12_times 392 1000000 μ6 (fun μ7 => Bd (gI μ7 392 0) fun y8 => Lp (G12_chanceOf_L37 v2 Q) (0, y8, μ7)))) ∧ (¬ (v1 ≤ 16) → Q 0 μ))
def G12_isPercent (v0 : Int32) (μ : MM) (Q : Int32 → MM → Prop) : Prop :=
  G12_in (v0.toInt64) 0 100 μ (fun r4 μ3 => bo r4 ∧ Q r4 μ3)
def G12_shows (v1 : Int32) (v2 : Int32) (v3 : Int32) (v4 : Int32) (μ : MM) (Q : Int32 → MM → Prop) : Prop :=
  Bd (sI μ 358 0 0) fun μ13 => G12_in (v1.toInt64) 1 16 μ13 (fun r15 μ14 => ((r15 = 0 → Q (-1) μ14) ∧ (¬ (r15 = 0) → G12_isPercent v2 μ14 (fun r18 μ17 => ((r18 = 0 → Q (-1) μ17) ∧ (¬ (r18 = 0) → G12_isPercent v3 μ17 (fun r21 μ20 => ((r21 = 0 → Q (-1) μ20) ∧ (¬ (r21 = 0) → G12_in (v4.toInt64) 1 16 μ20 (fun r24 μ23 => ((¬ r24 = 0 → G12_chances v1 v2 v3 μ23 (fun μ26 => G12_chanceOf v4 v1 μ26 (fun r28 μ27 => Q r28 μ27))) ∧ (r24 = 0 → Q (-1) μ23))))))))))))
def G12_least_L106  (p1 : Int32) (p2 : Int32) (p3 : Int32) (p4 : Int32) (p5 : Int32) (K49 : Int32 × MM → Prop) (Q : Int32 → MM → Prop) (K106 : Int32 × MM → Prop) (x : Int32 × MM) : Prop :=
  ((16 < x.1 → K49 ((p5 + 1), x.2)) ∧ (¬ (16 < x.1) → vp_in x.1 17 ∧ (((gI x.2 406 x.1.toNatClampNeg) < p3 → K106 ((x.1 + 1), x.2)) ∧ (¬ ((gI x.2 406 x.1.toNatClampNeg) < p3) → G12_chanceOf x.1 p5 x.2 (fun r42 μ41 => ((p4 < r42 → K106 ((x.1 + 1), μ41)) ∧ (¬ (p4 < r42) → Bd (sI μ41 358 1 0) fun μ44 => G12_enters (x.1.toInt64) μ44 (fun μ45 => Q p5 μ45))))))))
def G12_least_L67  (p1 : Int32) (p2 : Int32) (p3 : Int32) (p4 : Int32) (p5 : Int32) (K49 : Int32 × MM → Prop) (Q : Int32 → MM → Prop) (K67 : Int32 × MM → Prop) (x : Int32 × MM) : Prop :=
  ((16 < x.1 → G12_chances p5 p2 p2 x.2 (fun μ37 => Lp (G12_least_L106 p1 p2 p3 p4 p5 K49 Q) (1, μ37))) ∧ (¬ (16 < x.1) → G12_chanceOf x.1 p5 x.2 (fun r47 μ46 => vp_in x.1 17 ∧ Bd (sI μ46 406 x.1.toNatClampNeg r47) fun μ49 => K67 ((x.1 + 1), μ49))))
def G12_least_L49  (p1 : Int32) (p2 : Int32) (p3 : Int32) (p4 : Int32)  (Q : Int32 → MM → Prop) (K49 : Int32 × MM → Prop) (x : Int32 × MM) : Prop :=
  ((16 < x.1 → Q (-2) x.2) ∧ (¬ (16 < x.1) → G12_chances x.1 p1 p2 x.2 (fun μ35 => Lp (G12_least_L67 p1 p2 p3 p4 x.1 K49 Q) (1, μ35))))
def G12_least (v1 : Int32) (v2 : Int32) (v3 : Int32) (v4 : Int32) (μ : MM) (Q : Int32 → MM → Prop) : Prop :=
  Bd (sI μ 358 0 0) fun μ21 => G12_isPercent v1 μ21 (fun r23 μ22 => ((r23 = 0 → Q (-1) μ22) ∧ (¬ (r23 = 0) → G12_isPercent v2 μ22 (fun r26 μ25 => ((r26 = 0 → Q (-1) μ25) ∧ (¬ (r26 = 0) → G12_in (v3.toInt64) 1 1000000 μ25 (fun r29 μ28 => ((r29 = 0 → Q (-1) μ28) ∧ (¬ (r29 = 0) → G12_in (v4.toInt64) 0 1000000 μ28 (fun r32 μ31 => ((¬ r32 = 0 → Lp (G12_least_L49 v1 v2 v3 v4 Q) (1, μ31)) ∧ (r32 = 0 → Q (-1) μ31))))))))))))
def G12_keep_L41  (p1 : Int32)  (Q : Int32 → MM → Prop) (K41 : Int32 × MM → Prop) (x : Int32 × MM) : Prop :=
  (((gI x.2 358 12) ≤ x.1 → Q 1 x.2) ∧ (¬ ((gI x.2 358 12) ≤ x.1) → vp_in x.1 96 ∧ G12_flag (gI x.2 373 x.1.toNatClampNeg) x.2 (fun r28 μ27 => vp_in x.1 96 ∧ G12_flag (gI μ27 374 x.1.toNatClampNeg) μ27 (fun r31 μ30 => vp_in x.1 96 ∧ vp_in ((96 * p1) + x.1) 288 ∧ Bd (sI μ30 409 (((96 * p1) + x.1).toNatClampNeg) ((r28 + (2 * r31)) + (4 * (gI μ30 375 x.1.toNatClampNeg)))) fun μ34 => K41 ((x.1 + 1), μ34)))))
def G12_keep (v1 : Int32) (μ : MM) (Q : Int32 → MM → Prop) : Prop :=
  Bd (sI μ 358 0 0) fun μ17 => G12_in (v1.toInt64) 0 2 μ17 (fun r19 μ18 => ((¬ r19 = 0 → vp_in v1 3 ∧ Bd (sI μ18 407 v1.toNatClampNeg (gI μ18 358 12)) fun μ22 => vp_in v1 3 ∧ Bd (sI μ22 408 v1.toNatClampNeg (gI μ22 358 22)) fun μ24 => Lp (G12_keep_L41 v1 Q) (0, μ24)) ∧ (r19 = 0 → Q 0 μ18)))
def G12_again_L68  (p1 : Int32)  (Q : Int32 → MM → Prop) (K68 : Int32 × MM → Prop) (x : Int32 × MM) : Prop :=
  (((gI x.2 358 12) ≤ x.1 → Q 1 x.2) ∧ (¬ ((gI x.2 358 12) ≤ x.1) → vp_in ((96 * p1) + x.1) 288 ∧ Bd (gI x.2 409 (((96 * p1) + x.1).toNatClampNeg)) fun y37 => G12_has y37 0 x.2 (fun r39 μ38 => vp_in x.1 96 ∧ Bd (sI μ38 373 x.1.toNatClampNeg (vp_nar .boolean r39)) fun μ41 => G12_has y37 1 μ41 (fun r43 μ42 => vp_in x.1 96 ∧ Bd (sI μ42 374 x.1.toNatClampNeg (vp_nar .boolean r43)) fun μ45 => vp_in x.1 96 ∧ Bd (sI μ45 375 x.1.toNatClampNeg (y37 >>> (2 &&& 31))) fun μ47 => K68 ((x.1 + 1), μ47)))))
def G12_again (v1 : Int32) (μ : MM) (Q : Int32 → MM → Prop) : Prop :=
  Bd (sI μ 358 0 0) fun μ22 => G12_in (v1.toInt64) 0 2 μ22 (fun r24 μ23 => ((r24 = 0 → Q 0 μ23) ∧ (¬ (r24 = 0) → vp_in v1 3 ∧ (((gI μ23 407 v1.toNatClampNeg) < 0 → Q 0 μ23) ∧ (¬ ((gI μ23 407 v1.toNatClampNeg) < 0) → vp_in v1 3 ∧ (((gI μ23 407 v1.toNatClampNeg) ≤ (gI μ23 358 12) → vp_in v1 3 ∧ Bd (sI μ23 358 12 (gI μ23 407 v1.toNatClampNeg)) fun μ31 => vp_in v1 3 ∧ Bd (sI μ31 358 22 (gI μ31 408 v1.toNatClampNeg)) fun μ33 => Bd (sI μ33 358 61 0) fun μ34 => Lp (G12_again_L68 v1 Q) (0, μ34)) ∧ (¬ ((gI μ23 407 v1.toNatClampNeg) ≤ (gI μ23 358 12)) → Q 0 μ23)))))))
def G12_toldBits_L4  (p1 : Int32)  (Q : Int32 → MM → Prop) (K4 : Int32 × Int32 × MM → Prop) (x : Int32 × Int32 × MM) : Prop :=
  ((6 ≤ x.2.1 → Q x.1 x.2.2) ∧ (¬ (6 ≤ x.2.1) → vp_in (p1 + x.2.1) 13 ∧ (((gI x.2.2 378 ((p1 + x.2.1).toNatClampNeg)) ≤ 0 → Bd (x.1 ||| 0) fun y5 => K4 (y5, (x.2.1 + 1), x.2.2)) ∧ (¬ ((gI x.2.2 378 ((p1 + x.2.1).toNatClampNeg)) ≤ 0) → Bd (x.1 ||| (1 <<< (x.2.1 &&& 31))) fun y6 => K4 (y6, (x.2.1 + 1), x.2.2)))))
def G12_toldBits (v1 : Int32) (μ : MM) (Q : Int32 → MM → Prop) : Prop :=
  Lp (G12_toldBits_L4 v1 Q) (0, 0, μ)
def G12_rungMany_J36  (p2 : Int32) (q0 : Int32) (q1 : Int32) (μ : MM) (K4 : Int32 × Int32 × MM → Prop) (Q : Int32 → MM → Prop) : Prop :=
  G12_flag q0 μ (fun r9 μ8 => Bd (q1 + r9) fun y10 => K4 (y10, (p2 + 1), μ8))
def G12_rungMany_J35  (p2 : Int32) (q0 : Int32) (μ : MM) (K4 : Int32 × Int32 × MM → Prop) (Q : Int32 → MM → Prop) : Prop :=
  G12_rungMany_J36 p2 0 q0 μ K4 Q
def G12_rungMany_L4    (Q : Int32 → MM → Prop) (K4 : Int32 × Int32 × MM → Prop) (x : Int32 × Int32 × MM) : Prop :=
  (((gI x.2.2 358 12) ≤ x.2.1 → Q x.1 x.2.2) ∧ (¬ ((gI x.2.2 358 12) ≤ x.2.1) → vp_in x.2.1 96 ∧ (((gI x.2.2 373 x.2.1.toNatClampNeg) = 0 → G12_rungMany_J35 x.2.1 x.1 x.2.2 K4 Q) ∧ (¬ ((gI x.2.2 373 x.2.1.toNatClampNeg) = 0) → vp_in x.2.1 96 ∧ (((gI x.2.2 374 x.2.1.toNatClampNeg) = 0 → G12_rungMany_J35 x.2.1 x.1 x.2.2 K4 Q) ∧ (¬ ((gI x.2.2 374 x.2.1.toNatClampNeg) = 0) → G12_rungMany_J36 x.2.1 1 x.1 x.2.2 K4 Q))))))
def G12_rungMany  (μ : MM) (Q : Int32 → MM → Prop) : Prop :=
  Lp (G12_rungMany_L4 Q) (0, 0, μ)
def G12_count (v1 : Int32) (μ : MM) (Q : Int32 → MM → Prop) : Prop :=
  Bd (sI μ 358 0 0) fun μ10 => ((v1 = 0 → Q (gI μ10 358 3) μ10) ∧ (v1 = 1 → Q (gI μ10 358 8) μ10) ∧ (v1 = 2 → Q (gI μ10 358 12) μ10) ∧ (v1 = 3 → G12_readMany μ10 (fun r16 μ15 => Q r16 μ15)) ∧ (v1 = 4 → G12_rungMany μ10 (fun r19 μ18 => Q r19 μ18)) ∧ (v1 = 5 → G12_toldBits 0 μ10 (fun r22 μ21 => Q r22 μ21)) ∧ (v1 = 6 → G12_toldBits 6 μ10 (fun r25 μ24 => Q r25 μ24)) ∧ (v1 = 7 → Q (gI μ10 358 61) μ10) ∧ (v1 = 8 → Q (gI μ10 358 1) μ10) ∧ (v1 = 9 → Q (gI μ10 358 28) μ10) ∧ (¬ v1 = 0 → ¬ v1 = 1 → ¬ v1 = 2 → ¬ v1 = 3 → ¬ v1 = 4 → ¬ v1 = 5 → ¬ v1 = 6 → ¬ v1 = 7 → ¬ v1 = 8 → ¬ v1 = 9 → Q (-1) μ10))
def G12_row (v1 : Int32) (μ : MM) (Q : Int64 → MM → Prop) : Prop :=
  Bd (sI μ 358 0 0) fun μ6 => G12_in (v1.toInt64) 0 (((gI μ6 358 1) - 1).toInt64) μ6 (fun r8 μ7 => ((¬ r8 = 0 → vp_in v1 32 ∧ Q (gJ μ7 359 v1.toNatClampNeg) μ7) ∧ (r8 = 0 → Bd (sI μ7 358 0 1) fun μ11 => Q 0 μ11)))
def G3_isDigit_J16   (μ : MM)  (Q : Int32 → MM → Prop) : Prop :=
  Q 0 μ
def G3_isDigit (v0 : Int32) (μ : MM) (Q : Int32 → MM → Prop) : Prop :=
  ((v0 < 48 → G3_isDigit_J16 μ Q) ∧ (¬ (v0 < 48) → ((57 < v0 → G3_isDigit_J16 μ Q) ∧ (¬ (57 < v0) → Q 1 μ))))
def G3_strength (v0 : Int32) (μ : MM) (Q : Int32 → MM → Prop) : Prop :=
  ((v0 = 33 → Q 6 μ) ∧ (v0 = 38 → Q 2 μ) ∧ (v0 = 42 → Q 5 μ) ∧ (v0 = 43 → Q 4 μ) ∧ (v0 = 45 → Q 4 μ) ∧ (v0 = 60 → Q 3 μ) ∧ (v0 = 61 → Q 3 μ) ∧ (v0 = 62 → Q 3 μ) ∧ (v0 = 124 → Q 1 μ) ∧ (v0 = 126 → Q 6 μ) ∧ (¬ v0 = 33 → ¬ v0 = 38 → ¬ v0 = 42 → ¬ v0 = 43 → ¬ v0 = 45 → ¬ v0 = 60 → ¬ v0 = 61 → ¬ v0 = 62 → ¬ v0 = 124 → ¬ v0 = 126 → Q 0 μ))
def G3_isJoining (v0 : Int32) (μ : MM) (Q : Int32 → MM → Prop) : Prop :=
  G3_strength v0 μ (fun r6 μ5 => G11_within r6 1 5 μ5 (fun r8 μ7 => bo r8 ∧ Q r8 μ7))
def G3_put (t : Nat) (v1 : Int32) (μ : MM) (Q : MM → Prop) : Prop :=
  ((40 ≤ (gI μ t 1) → Q μ) ∧ (¬ (40 ≤ (gI μ t 1)) → vp_in (gI μ t 1) 40 ∧ Bd (sI μ (t + 1) ((gI μ t 1).toNatClampNeg) v1) fun μ6 => Bd (sI μ6 t 1 ((gI μ6 t 1) + 1)) fun μ7 => Q μ7))
def G3_putDigit_J41 (t : Nat) (p1 : Int32) (μ : MM)  (Q : MM → Prop) : Prop :=
  G3_put t p1 μ (fun μ6 => Q μ6)
def G3_putDigit (t : Nat) (v1 : Int32) (v2 : Int32) (μ : MM) (Q : MM → Prop) : Prop :=
  ((v2 = 0 → G3_putDigit_J41 t v1 μ Q) ∧ (¬ (v2 = 0) → (((gI μ t 1) ≤ 0 → G3_putDigit_J41 t v1 μ Q) ∧ (¬ ((gI μ t 1) ≤ 0) → vp_in ((gI μ t 1) - 1) 40 ∧ vp_in ((gI μ t 1) - 1) 40 ∧ Bd (sI μ (t + 1) (((gI μ t 1) - 1).toNatClampNeg) (((gI μ (t + 1) (((gI μ t 1) - 1).toNatClampNeg)) * 10) + v1)) fun μ10 => Q μ10))))
def G3_putStronger_L0 (t : Nat) (p1 : Int32)  (Q : MM → Prop) (K0 : MM → Prop) (x : MM) : Prop :=
  (((gI x t 3) ≤ 0 → Q x) ∧ (¬ ((gI x t 3) ≤ 0) → vp_in ((gI x t 3) - 1) 40 ∧ G3_strength (gI x (t + 2) (((gI x t 3) - 1).toNatClampNeg)) x (fun r10 μ9 => ((r10 < p1 → Q μ9) ∧ (¬ (r10 < p1) → G3_pop t μ9 (fun r13 μ12 => G3_put t (-r13) μ12 (fun μ14 => K0 μ14)))))))
def G3_putStronger (t : Nat) (v1 : Int32) (μ : MM) (Q : MM → Prop) : Prop :=
  Lp (G3_putStronger_L0 t v1 Q) μ
def G5_told (t : Nat) (v1 : Int32) (μ : MM) (Q : Int32 → MM → Prop) : Prop :=
  ((v1 = 0 → Q (gI μ t 0) μ) ∧ (v1 = 1 → Q (gI μ t 1) μ) ∧ (v1 = 2 → Q (gI μ t 2) μ) ∧ (v1 = 3 → Q (gI μ t 3) μ) ∧ (v1 = 4 → Q (gI μ t 4) μ) ∧ (v1 = 5 → Q (gI μ t 5) μ) ∧ (v1 = 6 → (((gI μ t 6) = 0 → Q 0 μ) ∧ (¬ ((gI μ t 6) = 0) → Q 1 μ))) ∧ (v1 = 7 → (((gI μ t 7) = 0 → Q 0 μ) ∧ (¬ ((gI μ t 7) = 0) → Q 1 μ))) ∧ (¬ v1 = 0 → ¬ v1 = 1 → ¬ v1 = 2 → ¬ v1 = 3 → ¬ v1 = 4 → ¬ v1 = 5 → ¬ v1 = 6 → ¬ v1 = 7 → Q (gI μ t 8) μ))
def G10_isFree_L3  (p1 : Int32) (p2 : Int32) (p3 : Int32)  (Q : Int32 → MM → Prop) (K3 : Int32 × MM → Prop) (x : Int32 × MM) : Prop :=
  (((gI x.2 1 10) ≤ x.1 → vp_in p1 12 ∧ ((¬ (gI x.2 2 p1.toNatClampNeg) = p3 → Q 0 x.2) ∧ ((gI x.2 2 p1.toNatClampNeg) = p3 → Q 1 x.2))) ∧ (¬ ((gI x.2 1 10) ≤ x.1) → vp_in x.1 96 ∧ ((¬ (gI x.2 (19 + x.1.toNatClampNeg) 0) = p2 → K3 ((x.1 + 1), x.2)) ∧ ((gI x.2 (19 + x.1.toNatClampNeg) 0) = p2 → vp_in x.1 96 ∧ ((¬ (gI x.2 (19 + x.1.toNatClampNeg) 1) = p1 → K3 ((x.1 + 1), x.2)) ∧ ((gI x.2 (19 + x.1.toNatClampNeg) 1) = p1 → Q 0 x.2))))))
def G10_isFree (v1 : Int32) (v2 : Int32) (v3 : Int32) (μ : MM) (Q : Int32 → MM → Prop) : Prop :=
  Lp (G10_isFree_L3 v1 v2 v3 Q) (0, μ)
def G10_drawName_L49  (p1 : Int32) (p2 : Int32)  (Q : Int32 → MM → Prop) (K49 : Int32 × Int32 × MM → Prop) (x : Int32 × Int32 × MM) : Prop :=
  (((gI x.2.2 1 4) ≤ x.2.1 → Q 0 x.2.2) ∧ (¬ ((gI x.2.2 1 4) ≤ x.2.1) → G10_isFree x.2.1 p1 p2 x.2.2 (fun r12 μ11 => ((r12 = 0 → K49 (x.1, (x.2.1 + 1), μ11)) ∧ (¬ (r12 = 0) → ((¬ x.1 = 0 → K49 ((x.1 + (-1)), (x.2.1 + 1), μ11)) ∧ (x.1 = 0 → Q x.2.1 μ11)))))))
def G10_drawName_L5  (p1 : Int32) (p2 : Int32)  (Q : Int32 → MM → Prop) (K5 : Int32 × Int32 × MM → Prop) (x : Int32 × Int32 × MM) : Prop :=
  (((gI x.2.2 1 4) ≤ x.2.1 → G10_draw x.1 x.2.2 (fun r9 μ8 => Lp (G10_drawName_L49 p1 p2 Q) (r9, 0, μ8))) ∧ (¬ ((gI x.2.2 1 4) ≤ x.2.1) → G10_isFree x.2.1 p1 p2 x.2.2 (fun r16 μ15 => ((r16 = 0 → Bd (x.1 + 0) fun y18 => K5 (y18, (x.2.1 + 1), μ15)) ∧ (¬ (r16 = 0) → Bd (x.1 + 1) fun y19 => K5 (y19, (x.2.1 + 1), μ15))))))
def G10_drawName (v1 : Int32) (v2 : Int32) (μ : MM) (Q : Int32 → MM → Prop) : Prop :=
  Lp (G10_drawName_L5 v1 v2 Q) (0, 0, μ)
def G10_namesOf_L4  (p1 : Int32)  (Q : Int32 → MM → Prop) (K4 : Int32 × Int32 × MM → Prop) (x : Int32 × Int32 × MM) : Prop :=
  (((gI x.2.2 1 4) ≤ x.2.1 → Q x.1 x.2.2) ∧ (¬ ((gI x.2.2 1 4) ≤ x.2.1) → vp_in x.2.1 12 ∧ ((¬ (gI x.2.2 2 x.2.1.toNatClampNeg) = p1 → Bd (x.1 + 0) fun y5 => K4 (y5, (x.2.1 + 1), x.2.2)) ∧ ((gI x.2.2 2 x.2.1.toNatClampNeg) = p1 → Bd (x.1 + 1) fun y6 => K4 (y6, (x.2.1 + 1), x.2.2)))))
def G10_namesOf (v1 : Int32) (μ : MM) (Q : Int32 → MM → Prop) : Prop :=
  Lp (G10_namesOf_L4 v1 Q) (0, 0, μ)
