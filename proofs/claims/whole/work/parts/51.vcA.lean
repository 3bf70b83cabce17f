set_option maxRecDepth 20000 in
theorem vJ_bitCount_0 {d : Nat} {M : xM} {Q : xQ} {a0 : Int}
    (h : Q (xI (iand (z32 (z64 ((z64 ((z64 ((land (z64 ((z64 ((land (z64 (a0 - (land (lushr a0 1) 6148914691236517205))) 3689348814741910323) + (land (lushr (z64 (a0 - (land (lushr a0 1) 6148914691236517205))) 2) 3689348814741910323))) + (lushr (z64 ((land (z64 (a0 - (land (lushr a0 1) 6148914691236517205))) 3689348814741910323) + (land (lushr (z64 (a0 - (land (lushr a0 1) 6148914691236517205))) 2) 3689348814741910323))) 4))) 1085102592571150095) + (lushr (land (z64 ((z64 ((land (z64 (a0 - (land (lushr a0 1) 6148914691236517205))) 3689348814741910323) + (land (lushr (z64 (a0 - (land (lushr a0 1) 6148914691236517205))) 2) 3689348814741910323))) + (lushr (z64 ((land (z64 (a0 - (land (lushr a0 1) 6148914691236517205))) 3689348814741910323) + (land (lushr (z64 (a0 - (land (lushr a0 1) 6148914691236517205))) 2) 3689348814741910323))) 4))) 1085102592571150095) 8))) + (lushr (z64 ((land (z64 ((z64 ((land (z64 (a0 - (land (lushr a0 1) 6148914691236517205))) 3689348814741910323) + (land (lushr (z64 (a0 - (land (lushr a0 1) 6148914691236517205))) 2) 3689348814741910323))) + (lushr (z64 ((land (z64 (a0 - (land (lushr a0 1) 6148914691236517205))) 3689348814741910323) + (land (lushr (z64 (a0 - (land (lushr a0 1) 6148914691236517205))) 2) 3689348814741910323))) 4))) 1085102592571150095) + (lushr (land (z64 ((z64 ((land (z64 (a0 - (land (lushr a0 1) 6148914691236517205))) 3689348814741910323) + (land (lushr (z64 (a0 - (land (lushr a0 1) 6148914691236517205))) 2) 3689348814741910323))) + (lushr (z64 ((land (z64 (a0 - (land (lushr a0 1) 6148914691236517205))) 3689348814741910323) + (land (lushr (z64 (a0 - (land (lushr a0 1) 6148914691236517205))) 2) 3689348814741910323))) 4))) 1085102592571150095) 8))) 16))) + (lushr (z64 ((z64 ((land (z64 ((z64 ((land (z64 (a0 - (land (lushr a0 1) 6148914691236517205))) 3689348814741910323) + (land (lushr (z64 (a0 - (land (lushr a0 1) 6148914691236517205))) 2) 3689348814741910323))) + (lushr (z64 ((land (z64 (a0 - (land (lushr a0 1) 6148914691236517205))) 3689348814741910323) + (land (lushr (z64 (a0 - (land (lushr a0 1) 6148914691236517205))) 2) 3689348814741910323))) 4))) 1085102592571150095) + (lushr (land (z64 ((z64 ((land (z64 (a0 - (land (lushr a0 1) 6148914691236517205))) 3689348814741910323) + (land (lushr (z64 (a0 - (land (lushr a0 1) 6148914691236517205))) 2) 3689348814741910323))) + (lushr (z64 ((land (z64 (a0 - (land (lushr a0 1) 6148914691236517205))) 3689348814741910323) + (land (lushr (z64 (a0 - (land (lushr a0 1) 6148914691236517205))) 2) 3689348814741910323))) 4))) 1085102592571150095) 8))) + (lushr (z64 ((land (z64 ((z64 ((land (z64 (a0 - (land (lushr a0 1) 6148914691236517205))) 3689348814741910323) + (land (lushr (z64 (a0 - (land (lushr a0 1) 6148914691236517205))) 2) 3689348814741910323))) + (lushr (z64 ((land (z64 (a0 - (land (lushr a0 1) 6148914691236517205))) 3689348814741910323) + (land (lushr (z64 (a0 - (land (lushr a0 1) 6148914691236517205))) 2) 3689348814741910323))) 4))) 1085102592571150095) + (lushr (land (z64 ((z64 ((land (z64 (a0 - (land (lushr a0 1) 6148914691236517205))) 3689348814741910323) + (land (lushr (z64 (a0 - (land (lushr a0 1) 6148914691236517205))) 2) 3689348814741910323))) + (lushr (z64 ((land (z64 (a0 - (land (lushr a0 1) 6148914691236517205))) 3689348814741910323) + (land (lushr (z64 (a0 - (land (lushr a0 1) 6148914691236517205))) 2) 3689348814741910323))) 4))) 1085102592571150095) 8))) 16))) 32)))) 127)) M) :
    Ru d kJ_bitCount 0 [xL a0, xU] [] M Q := sx_ok cJ_bitCount 50 [] rfl h
theorem vCosts_weigh_0 {d : Nat} {M : xM} {Q : xQ} {a0 a1 : Int}
    (h : Ru (d + 1) kCosts_weigh 2 [xO 0 a0, xO 5 a1, xI 0, xU] [] M Q) :
    Ru (d + 1) kCosts_weigh 0 [xO 0 a0, xO 5 a1, xU, xU] [] M Q := sx_ok cCosts_weigh 3 [2, 18, 35, 62, 81] rfl h
theorem vCosts_weigh_2 {d : Nat} {M : xM} {Q : xQ} {a0 a1 a2 : Int}
    (h : (32 ≤ a2 → (0 ≤ (0 : Int) ∧ (0 : Int) < 33) ∧ (Ru (d + 1) kCosts_weigh 35 [xO 0 a0, xO 5 a1, xI 32, xU] [] (up M (a0 + 1) 0 1) Q)) ∧ (¬ (32 ≤ a2) → Ru d kCosts_partedBeginnings 0 [xO 5 a1, xI a2, xU, xU, xU, xU, xU, xU, xU, xU, xU, xU, xU] [] M (fun r N => Ru (d + 1) kCosts_weigh 18 [xO 0 a0, xO 5 a1, xI a2, xU] [r, xI a2, xAL 33 (a0 + 1)] N Q))) :
    Ru (d + 1) kCosts_weigh 2 [xO 0 a0, xO 5 a1, xI a2, xU] [] M Q := sx_ok cCosts_weigh 11 [2, 18, 35, 62, 81] rfl h
theorem vCosts_weigh_18 {d : Nat} {M : xM} {Q : xQ} {a0 a1 a2 s0 s1 s2 : Int}
    (h : (0 ≤ s1 ∧ s1 < 33) ∧ (Ru (d + 1) kCosts_weigh 2 [xO 0 a0, xO 5 a1, xI (z32 (a2 + 1)), xU] [] (up M s2 s1 s0) Q)) :
    Ru (d + 1) kCosts_weigh 18 [xO 0 a0, xO 5 a1, xI a2, xU] [xL s0, xI s1, xAL 33 s2] M Q := sx_ok cCosts_weigh 4 [2, 18, 35, 62, 81] rfl h
theorem vCosts_weigh_35 {d : Nat} {M : xM} {Q : xQ} {a0 a1 a2 : Int} {w3 : xV}
    (h : (a2 < 0 → Q xU M) ∧ (¬ (a2 < 0) → (0 ≤ a2 ∧ a2 < 33) ∧ ((¬ a2 = 32 → (0 ≤ (0 : Int) ∧ (0 : Int) < 17) ∧ (Ru (d + 1) kCosts_weigh 62 [xO 0 a0, xO 5 a1, xI a2, xI 1] [] (up M (M (a0 + 2) a2) 0 1152921504606846976) Q)) ∧ (¬ (¬ a2 = 32) → (0 ≤ (0 : Int) ∧ (0 : Int) < 17) ∧ (Ru (d + 1) kCosts_weigh 62 [xO 0 a0, xO 5 a1, xI a2, xI 1] [] (up M (M (a0 + 2) a2) 0 0) Q))))) :
    Ru (d + 1) kCosts_weigh 35 [xO 0 a0, xO 5 a1, xI a2, w3] [] M Q := sx_ok cCosts_weigh 16 [2, 18, 35, 62, 81] rfl h
theorem vCosts_weigh_62 {d : Nat} {M : xM} {Q : xQ} {a0 a1 a2 a3 : Int}
    (h : (16 < a3 → Ru (d + 1) kCosts_weigh 35 [xO 0 a0, xO 5 a1, xI (z32 (a2 + (-1))), xI a3] [] M Q) ∧ (¬ (16 < a3) → (0 ≤ a2 ∧ a2 < 33) ∧ (Ru d kCosts_fewestSlots 0 [xO 0 a0, xI a2, xI a3, xU, xU, xU] [] M (fun r N => Ru (d + 1) kCosts_weigh 81 [xO 0 a0, xO 5 a1, xI a2, xI a3] [r, xI a3, xAL 17 (M (a0 + 2) a2)] N Q)))) :
    Ru (d + 1) kCosts_weigh 62 [xO 0 a0, xO 5 a1, xI a2, xI a3] [] M Q := sx_ok cCosts_weigh 13 [2, 18, 35, 62, 81] rfl h
theorem vCosts_weigh_81 {d : Nat} {M : xM} {Q : xQ} {a0 a1 a2 a3 s0 s1 s2 : Int}
    (h : (0 ≤ s1 ∧ s1 < 17) ∧ (Ru (d + 1) kCosts_weigh 62 [xO 0 a0, xO 5 a1, xI a2, xI (z32 (a3 + 1))] [] (up M s2 s1 s0) Q)) :
    Ru (d + 1) kCosts_weigh 81 [xO 0 a0, xO 5 a1, xI a2, xI a3] [xL s0, xI s1, xAL 17 s2] M Q := sx_ok cCosts_weigh 4 [2, 18, 35, 62, 81] rfl h
theorem vCosts_partedBeginnings_0 {d : Nat} {M : xM} {Q : xQ} {a0 a1 : Int}
    (h : Ru d kRS_widthOf 0 [xI a1] [] M (fun r N => Ru (d + 1) kCosts_partedBeginnings 11 [xO 5 a0, xI a1, xL 0, xU, xL (-1), xU, xU, xU, xU, xU, xU, xU, xU] [r] N Q)) :
    Ru (d + 1) kCosts_partedBeginnings 0 [xO 5 a0, xI a1, xU, xU, xU, xU, xU, xU, xU, xU, xU, xU, xU] [] M Q := sx_ok cCosts_partedBeginnings 7 [11, 16] rfl h
theorem vCosts_partedBeginnings_11 {d : Nat} {M : xM} {Q : xQ} {a0 a1 a2 a4 s0 : Int}
    (h : Ru (d + 1) kCosts_partedBeginnings 16 [xO 5 a0, xI a1, xL a2, xU, xL a4, xU, xL s0, xU, xI 1, xU, xU, xU, xU] [] M Q) :
    Ru (d + 1) kCosts_partedBeginnings 11 [xO 5 a0, xI a1, xL a2, xU, xL a4, xU, xU, xU, xU, xU, xU, xU, xU] [xL s0] M Q := sx_ok cCosts_partedBeginnings 4 [11, 16] rfl h
theorem vCosts_partedBeginnings_16 {d : Nat} {M : xM} {Q : xQ} {a0 a1 a2 a4 a6 a8 : Int} {w9 w11 : xV}
    (h : ((M a0 0) ≤ a8 → Q (xL a2) M) ∧ (¬ ((M a0 0) ≤ a8) → (121 ≤ a8 → Q (xL a2) M) ∧ (¬ (121 ≤ a8) → (0 ≤ a8 ∧ a8 < 121) ∧ (((land (M (a0 + 1) a8) (z64 (a6 - 1))) = 0 → Ru (d + 1) kCosts_partedBeginnings 16 [xO 5 a0, xI a1, xL a2, xU, xL a4, xU, xL a6, xU, xI (z32 (a8 + 1)), xL (M (a0 + 1) a8), xU, xL (lshr (M (a0 + 1) a8) (z32 (32 - a1))), xU] [] M Q) ∧ (¬ ((land (M (a0 + 1) a8) (z64 (a6 - 1))) = 0) → ((lshr (M (a0 + 1) a8) (z32 (32 - a1))) = a4 → Ru (d + 1) kCosts_partedBeginnings 16 [xO 5 a0, xI a1, xL a2, xU, xL a4, xU, xL a6, xU, xI (z32 (a8 + 1)), xL (M (a0 + 1) a8), xU, xL (lshr (M (a0 + 1) a8) (z32 (32 - a1))), xU] [] M Q) ∧ (¬ ((lshr (M (a0 + 1) a8) (z32 (32 - a1))) = a4) → Ru (d + 1) kCosts_partedBeginnings 16 [xO 5 a0, xI a1, xL (z64 (a2 + 1)), xU, xL (lshr (M (a0 + 1) a8) (z32 (32 - a1))), xU, xL a6, xU, xI (z32 (a8 + 1)), xL (M (a0 + 1) a8), xU, xL (lshr (M (a0 + 1) a8) (z32 (32 - a1))), xU] [] M Q)))))) :
    Ru (d + 1) kCosts_partedBeginnings 16 [xO 5 a0, xI a1, xL a2, xU, xL a4, xU, xL a6, xU, xI a8, w9, xU, w11, xU] [] M Q := sx_ok cCosts_partedBeginnings 37 [11, 16] rfl h
theorem vCosts_slotsWith_0 {d : Nat} {M : xM} {Q : xQ} {a0 a1 a2 a3 : Int}
    (h : (a1 < 0 → Q (xL 1152921504606846976) M) ∧ (¬ (a1 < 0) → (32 < (z32 (a1 + a3)) → Q (xL 1152921504606846976) M) ∧ (¬ (32 < (z32 (a1 + a3))) → (a2 < 1 → Q (xL 1152921504606846976) M) ∧ (¬ (a2 < 1) → (a2 ≤ 16 → (0 ≤ a1 ∧ a1 < 33) ∧ ((0 ≤ (z32 (a1 + a3)) ∧ (z32 (a1 + a3)) < 33) ∧ ((0 ≤ (z32 (a2 - 1)) ∧ (z32 (a2 - 1)) < 17) ∧ (Q (xL (z64 ((lshl (M (a0 + 1) a1) a3) + (M (M (a0 + 2) (z32 (a1 + a3))) (z32 (a2 - 1)))))) M)))) ∧ (¬ (a2 ≤ 16) → Q (xL 1152921504606846976) M))))) :
    Ru d kCosts_slotsWith 0 [xO 0 a0, xI a1, xI a2, xI a3, xU] [] M Q := sx_ok cCosts_slotsWith 32 [] rfl h
theorem vCosts_fewestSlots_0 {d : Nat} {M : xM} {Q : xQ} {a0 a1 a2 : Int}
    (h : Ru (d + 1) kCosts_fewestSlots 7 [xO 0 a0, xI a1, xI a2, xL 1152921504606846976, xU, xI 2] [] M Q) :
    Ru (d + 1) kCosts_fewestSlots 0 [xO 0 a0, xI a1, xI a2, xU, xU, xU] [] M Q := sx_ok cCosts_fewestSlots 5 [7, 23] rfl h
theorem vCosts_fewestSlots_7 {d : Nat} {M : xM} {Q : xQ} {a0 a1 a2 a3 a5 : Int}
    (h : (6 < a5 → Q (xL a3) M) ∧ (¬ (6 < a5) → Ru d kCosts_slotsWith 0 [xO 0 a0, xI a1, xI a2, xI a5, xU] [] M (fun r N => Ru (d + 1) kCosts_fewestSlots 23 [xO 0 a0, xI a1, xI a2, xL a3, xU, xI a5] [r, xL a3] N Q))) :
    Ru (d + 1) kCosts_fewestSlots 7 [xO 0 a0, xI a1, xI a2, xL a3, xU, xI a5] [] M Q := sx_ok cCosts_fewestSlots 10 [7, 23] rfl h
theorem vCosts_fewestSlots_23 {d : Nat} {M : xM} {Q : xQ} {a0 a1 a2 a3 a5 s0 s1 : Int}
    (h : Ru (d + 1) kCosts_fewestSlots 7 [xO 0 a0, xI a1, xI a2, xL (mn s1 s0), xU, xI (z32 (a5 + 1))] [] M Q) :
    Ru (d + 1) kCosts_fewestSlots 23 [xO 0 a0, xI a1, xI a2, xL a3, xU, xI a5] [xL s0, xL s1] M Q := sx_ok cCosts_fewestSlots 5 [7, 23] rfl h
theorem vCosts_slotsBy_0 {d : Nat} {M : xM} {Q : xQ} {a0 a1 : Int}
    (h : (a1 < 0 → Q (xL 1152921504606846976) M) ∧ (¬ (a1 < 0) → (16 < a1 → Q (xL 1152921504606846976) M) ∧ (¬ (16 < a1) → (0 ≤ (0 : Int) ∧ (0 : Int) < 33) ∧ ((0 ≤ a1 ∧ a1 < 17) ∧ (Q (xL (M (M (a0 + 2) 0) a1)) M))))) :
    Ru d kCosts_slotsBy 0 [xO 0 a0, xI a1] [] M Q := sx_ok cCosts_slotsBy 14 [] rfl h
theorem vCosts_bestLevels_0 {d : Nat} {M : xM} {Q : xQ} {a0 a1 : Int}
    (h : Ru (d + 1) kCosts_bestLevels 6 [xO 0 a0, xI a1, xI 6, xI 6] [] M Q) :
    Ru (d + 1) kCosts_bestLevels 0 [xO 0 a0, xI a1, xU, xU] [] M Q := sx_ok cCosts_bestLevels 5 [6, 16, 21] rfl h
theorem vCosts_bestLevels_6 {d : Nat} {M : xM} {Q : xQ} {a0 a1 a2 a3 : Int}
    (h : (a1 < a3 → Q (xI a2) M) ∧ (¬ (a1 < a3) → Ru d kCosts_slotsBy 0 [xO 0 a0, xI a3] [] M (fun r N => Ru (d + 1) kCosts_bestLevels 16 [xO 0 a0, xI a1, xI a2, xI a3] [r] N Q))) :
    Ru (d + 1) kCosts_bestLevels 6 [xO 0 a0, xI a1, xI a2, xI a3] [] M Q := sx_ok cCosts_bestLevels 7 [6, 16, 21] rfl h
theorem vCosts_bestLevels_16 {d : Nat} {M : xM} {Q : xQ} {a0 a1 a2 a3 s0 : Int}
    (h : Ru d kCosts_slotsBy 0 [xO 0 a0, xI a2] [] M (fun r N => Ru (d + 1) kCosts_bestLevels 21 [xO 0 a0, xI a1, xI a2, xI a3] [r, xL s0] N Q)) :
    Ru (d + 1) kCosts_bestLevels 16 [xO 0 a0, xI a1, xI a2, xI a3] [xL s0] M Q := sx_ok cCosts_bestLevels 4 [6, 16, 21] rfl h
theorem vCosts_bestLevels_21 {d : Nat} {M : xM} {Q : xQ} {a0 a1 a2 a3 s0 s1 : Int}
    (h : (s0 ≤ s1 → Ru (d + 1) kCosts_bestLevels 6 [xO 0 a0, xI a1, xI a2, xI (z32 (a3 + 1))] [] M Q) ∧ (¬ (s0 ≤ s1) → Ru (d + 1) kCosts_bestLevels 6 [xO 0 a0, xI a1, xI a3, xI (z32 (a3 + 1))] [] M Q)) :
    Ru (d + 1) kCosts_bestLevels 21 [xO 0 a0, xI a1, xI a2, xI a3] [xL s0, xL s1] M Q := sx_ok cCosts_bestLevels 6 [6, 16, 21] rfl h
theorem vCosts_digitsBy_0 {d : Nat} {M : xM} {Q : xQ} {a0 a1 : Int}
    (h : Ru (d + 1) kCosts_digitsBy 8 [xO 0 a0, xI a1, xL 0, xU, xI 0, xI a1, xU] [] M Q) :
    Ru (d + 1) kCosts_digitsBy 0 [xO 0 a0, xI a1, xU, xU, xU, xU, xU] [] M Q := sx_ok cCosts_digitsBy 7 [8, 16, 33, 41, 51] rfl h
theorem vCosts_digitsBy_8 {d : Nat} {M : xM} {Q : xQ} {a0 a1 a2 a4 a5 : Int} {w6 : xV}
    (h : (a5 ≤ 0 → Q (xL a2) M) ∧ (¬ (a5 ≤ 0) → Ru (d + 1) kCosts_digitsBy 16 [xO 0 a0, xI a1, xL a2, xU, xI a4, xI a5, xI 2] [] M Q)) :
    Ru (d + 1) kCosts_digitsBy 8 [xO 0 a0, xI a1, xL a2, xU, xI a4, xI a5, w6] [] M Q := sx_ok cCosts_digitsBy 5 [8, 16, 33, 41, 51] rfl h
theorem vCosts_digitsBy_16 {d : Nat} {M : xM} {Q : xQ} {a0 a1 a2 a4 a5 a6 : Int}
    (h : (6 ≤ a6 → Ru (d + 1) kCosts_digitsBy 51 [xO 0 a0, xI a1, xL a2, xU, xI a4, xI a5, xI a6] [] M Q) ∧ (¬ (6 ≤ a6) → Ru d kCosts_slotsWith 0 [xO 0 a0, xI a4, xI a5, xI a6, xU] [] M (fun r N => Ru (d + 1) kCosts_digitsBy 33 [xO 0 a0, xI a1, xL a2, xU, xI a4, xI a5, xI a6] [r] N Q))) :
    Ru (d + 1) kCosts_digitsBy 16 [xO 0 a0, xI a1, xL a2, xU, xI a4, xI a5, xI a6] [] M Q := sx_ok cCosts_digitsBy 9 [8, 16, 33, 41, 51] rfl h
theorem vCosts_digitsBy_33 {d : Nat} {M : xM} {Q : xQ} {a0 a1 a2 a4 a5 a6 s0 : Int}
    (h : Ru d kCosts_fewestSlots 0 [xO 0 a0, xI a4, xI a5, xU, xU, xU] [] M (fun r N => Ru (d + 1) kCosts_digitsBy 41 [xO 0 a0, xI a1, xL a2, xU, xI a4, xI a5, xI a6] [r, xL s0] N Q)) :
    Ru (d + 1) kCosts_digitsBy 33 [xO 0 a0, xI a1, xL a2, xU, xI a4, xI a5, xI a6] [xL s0] M Q := sx_ok cCosts_digitsBy 5 [8, 16, 33, 41, 51] rfl h
theorem vCosts_digitsBy_41 {d : Nat} {M : xM} {Q : xQ} {a0 a1 a2 a4 a5 a6 s0 s1 : Int}
    (h : (s1 = s0 → Ru (d + 1) kCosts_digitsBy 51 [xO 0 a0, xI a1, xL a2, xU, xI a4, xI a5, xI a6] [] M Q) ∧ (¬ (s1 = s0) → Ru (d + 1) kCosts_digitsBy 16 [xO 0 a0, xI a1, xL a2, xU, xI a4, xI a5, xI (z32 (a6 + 1))] [] M Q)) :
    Ru (d + 1) kCosts_digitsBy 41 [xO 0 a0, xI a1, xL a2, xU, xI a4, xI a5, xI a6] [xL s0, xL s1] M Q := sx_ok cCosts_digitsBy 4 [8, 16, 33, 41, 51] rfl h
theorem vCosts_digitsBy_51 {d : Nat} {M : xM} {Q : xQ} {a0 a1 a2 a4 a5 a6 : Int}
    (h : Ru (d + 1) kCosts_digitsBy 8 [xO 0 a0, xI a1, xL (z64 ((z64 (a2 * 10)) + a6)), xU, xI (z32 (a4 + a6)), xI (z32 (a5 + (-1))), xI a6] [] M Q) :
    Ru (d + 1) kCosts_digitsBy 51 [xO 0 a0, xI a1, xL a2, xU, xI a4, xI a5, xI a6] [] M Q := sx_ok cCosts_digitsBy 14 [8, 16, 33, 41, 51] rfl h
theorem vFewest_seek_0 {d : Nat} {M : xM} {Q : xQ} {a0 a1 : Int}
    (h : Ru d kFewest_part 0 [xO 1 a0, xO 5 a1, xL 0, xU, xI 0, xI 0, xU, xU, xU, xU, xU, xU, xU, xU] [] (up (up M a0 6 0) a0 0 0) (fun r N => Ru (d + 1) kFewest_seek 18 [xO 1 a0, xO 5 a1] [r] N Q)) :
    Ru (d + 1) kFewest_seek 0 [xO 1 a0, xO 5 a1] [] M Q := sx_ok cFewest_seek 13 [18, 27] rfl h
theorem vFewest_seek_18 {d : Nat} {M : xM} {Q : xQ} {a0 a1 s0 : Int}
    (h : Ru d kFewest_hand 0 [xO 1 a0, xI 0, xL 0, xU, xI 0, xI (-1), xU] [] M (fun r N => Ru (d + 1) kFewest_seek 27 [xO 1 a0, xO 5 a1] [] N Q)) :
    Ru (d + 1) kFewest_seek 18 [xO 1 a0, xO 5 a1] [xI s0] M Q := sx_ok cFewest_seek 8 [18, 27] rfl h
theorem vFewest_seek_27 {d : Nat} {M : xM} {Q : xQ} {a0 a1 : Int}
    (h : Q xU M) :
    Ru (d + 1) kFewest_seek 27 [xO 1 a0, xO 5 a1] [] M Q := sx_ok cFewest_seek 2 [18, 27] rfl h
theorem vFewest_hasNone_0 {d : Nat} {M : xM} {Q : xQ} {a0 : Int}
    (h : Ru d kFewest_hasNone 2 [xO 1 a0, xI 0] [] M Q) :
    Ru d kFewest_hasNone 0 [xO 1 a0, xU] [] M Q := sx_ok cFewest_hasNone 3 [2] rfl h
theorem vFewest_hasNone_2 {d : Nat} {M : xM} {Q : xQ} {a0 a1 : Int}
    (h : ((M a0 0) ≤ a1 → Q (xI 0) M) ∧ (¬ ((M a0 0) ≤ a1) → (60 ≤ a1 → Q (xI 0) M) ∧ (¬ (60 ≤ a1) → (0 ≤ a1 ∧ a1 < 60) ∧ ((¬ (M (a0 + 3) a1) = (-1) → Ru d kFewest_hasNone 2 [xO 1 a0, xI (z32 (a1 + 1))] [] M Q) ∧ (¬ (¬ (M (a0 + 3) a1) = (-1)) → Q (xI 1) M))))) :
    Ru d kFewest_hasNone 2 [xO 1 a0, xI a1] [] M Q := sx_ok cFewest_hasNone 16 [2] rfl h
theorem vFewest_part_0 {d : Nat} {M : xM} {Q : xQ} {a0 a1 a2 a4 a5 : Int}
    (h : (3723 ≤ (M a0 6) → Q (xI (-1)) M) ∧ (¬ (3723 ≤ (M a0 6)) → (a4 ≤ 32 → Ru d kSpans_spanWith 0 [xO 5 a1, xL a2, xU, xI a5, xU] [] (up M a0 6 (z32 ((M a0 6) + 1))) (fun r N => Ru (d + 1) kFewest_part 40 [xO 1 a0, xO 5 a1, xL a2, xU, xI a4, xI a5, xI (M a0 6), xU, xU, xU, xU, xU, xU, xU] [r] N Q)) ∧ (¬ (a4 ≤ 32) → Q (xI (-1)) M))) :
    Ru (d + 1) kFewest_part 0 [xO 1 a0, xO 5 a1, xL a2, xU, xI a4, xI a5, xU, xU, xU, xU, xU, xU, xU, xU] [] M Q := sx_ok cFewest_part 20 [40, 47, 107, 128] rfl h
theorem vFewest_part_40 {d : Nat} {M : xM} {Q : xQ} {a0 a1 a2 a4 a5 a6 s0 : Int}
    (h : Ru d kRS_widthOf 0 [xI a4] [] M (fun r N => Ru (d + 1) kFewest_part 47 [xO 1 a0, xO 5 a1, xL a2, xU, xI a4, xI a5, xI a6, xI s0, xU, xU, xU, xU, xU, xU] [r] N Q)) :
    Ru (d + 1) kFewest_part 40 [xO 1 a0, xO 5 a1, xL a2, xU, xI a4, xI a5, xI a6, xU, xU, xU, xU, xU, xU, xU] [xI s0] M Q := sx_ok cFewest_part 4 [40, 47, 107, 128] rfl h
theorem vFewest_part_47 {d : Nat} {M : xM} {Q : xQ} {a0 a1 a2 a4 a5 a6 a7 s0 : Int}
    (h : (0 ≤ a6 ∧ a6 < 3723) ∧ ((0 ≤ a7 ∧ a7 < 121) ∧ ((0 ≤ a6 ∧ a6 < 3723) ∧ ((0 ≤ a7 ∧ a7 < 121) ∧ ((((up (up M (a0 + 5) a6 (-1)) (a0 + 4) a6 (lshl 1 (z32 (((up M (a0 + 5) a6 (-1)) (a1 + 3) a7) + 1)))) (a1 + 2) a7) < (z64 ((z64 (a2 + s0)) - 1)) → Ru d kFewest_part 0 [xO 1 a0, xO 5 a1, xL a2, xU, xI (z32 (a4 + 1)), xI a7, xU, xU, xU, xU, xU, xU, xU, xU] [] (up (up M (a0 + 5) a6 (-1)) (a0 + 4) a6 (lshl 1 (z32 (((up M (a0 + 5) a6 (-1)) (a1 + 3) a7) + 1)))) (fun r N => Ru (d + 1) kFewest_part 107 [xO 1 a0, xO 5 a1, xL a2, xU, xI a4, xI a5, xI a6, xI a7, xL s0, xU, xU, xU, xU, xU] [r] N Q)) ∧ (¬ (((up (up M (a0 + 5) a6 (-1)) (a0 + 4) a6 (lshl 1 (z32 (((up M (a0 + 5) a6 (-1)) (a1 + 3) a7) + 1)))) (a1 + 2) a7) < (z64 ((z64 (a2 + s0)) - 1))) → Q (xI a6) (up (up M (a0 + 5) a6 (-1)) (a0 + 4) a6 (lshl 1 (z32 (((up M (a0 + 5) a6 (-1)) (a1 + 3) a7) + 1)))))))))) :
    Ru (d + 1) kFewest_part 47 [xO 1 a0, xO 5 a1, xL a2, xU, xI a4, xI a5, xI a6, xI a7, xU, xU, xU, xU, xU, xU] [xL s0] M Q := sx_ok cFewest_part 37 [40, 47, 107, 128] rfl h
theorem vFewest_part_107 {d : Nat} {M : xM} {Q : xQ} {a0 a1 a2 a4 a5 a6 a7 a8 s0 : Int}
    (h : ¬ (2 : Int) = 0 ∧ (Ru d kFewest_part 0 [xO 1 a0, xO 5 a1, xL (z64 (a2 + (ldiv a8 2))), xU, xI (z32 (a4 + 1)), xI a7, xU, xU, xU, xU, xU, xU, xU, xU] [] M (fun r N => Ru (d + 1) kFewest_part 128 [xO 1 a0, xO 5 a1, xL a2, xU, xI a4, xI a5, xI a6, xI a7, xL a8, xU, xI s0, xU, xU, xU] [r] N Q))) :
    Ru (d + 1) kFewest_part 107 [xO 1 a0, xO 5 a1, xL a2, xU, xI a4, xI a5, xI a6, xI a7, xL a8, xU, xU, xU, xU, xU] [xI s0] M Q := sx_ok cFewest_part 14 [40, 47, 107, 128] rfl h
set_option maxRecDepth 20000 in
theorem vFewest_part_128 {d : Nat} {M : xM} {Q : xQ} {a0 a1 a2 a4 a5 a6 a7 a8 a10 s0 : Int}
    (h : (a10 < 0 → Q (xI a6) M) ∧ (¬ (a10 < 0) → (3723 ≤ a10 → Q (xI a6) M) ∧ (¬ (3723 ≤ a10) → (s0 < 0 → Q (xI a6) M) ∧ (¬ (s0 < 0) → (3723 ≤ s0 → Q (xI a6) M) ∧ (¬ (3723 ≤ s0) → (0 ≤ a10 ∧ a10 < 3723) ∧ ((0 ≤ s0 ∧ s0 < 3723) ∧ (((land (M (a0 + 4) a10) (M (a0 + 4) s0)) = 0 → (0 ≤ a10 ∧ a10 < 3723) ∧ ((0 ≤ s0 ∧ s0 < 3723) ∧ ((0 ≤ a6 ∧ a6 < 3723) ∧ ((0 ≤ a6 ∧ a6 < 3723) ∧ (Q (xI a6) (up (up M (a0 + 4) a6 (lor (M (a0 + 4) a10) (M (a0 + 4) s0))) (a0 + 5) a6 s0)))))) ∧ (¬ ((land (M (a0 + 4) a10) (M (a0 + 4) s0)) = 0) → (0 ≤ a6 ∧ a6 < 3723) ∧ ((0 ≤ a6 ∧ a6 < 3723) ∧ (Q (xI a6) (up (up M (a0 + 4) a6 (land (M (a0 + 4) a10) (M (a0 + 4) s0))) (a0 + 5) a6 s0))))))))))) :
    Ru (d + 1) kFewest_part 128 [xO 1 a0, xO 5 a1, xL a2, xU, xI a4, xI a5, xI a6, xI a7, xL a8, xU, xI a10, xU, xU, xU] [xI s0] M Q := sx_ok cFewest_part 45 [40, 47, 107, 128] rfl h
theorem vFewest_hand_0 {d : Nat} {M : xM} {Q : xQ} {a0 a1 a2 a4 a5 : Int}
    (h : (a1 < 0 → Q xU M) ∧ (¬ (a1 < 0) → ((M a0 6) ≤ a1 → Q xU M) ∧ (¬ ((M a0 6) ≤ a1) → (3723 ≤ a1 → Q xU M) ∧ (¬ (3723 ≤ a1) → (a4 ≤ 32 → (0 ≤ a1 ∧ a1 < 3723) ∧ ((¬ (land (M (a0 + 4) a1) (lshl 1 (z32 (a5 + 1)))) = 0 → Ru (d + 1) kFewest_hand 69 [xO 1 a0, xI a1, xL a2, xU, xI a4, xI a5, xI a5] [] M Q) ∧ (¬ (¬ (land (M (a0 + 4) a1) (lshl 1 (z32 (a5 + 1)))) = 0) → (0 ≤ a1 ∧ a1 < 3723) ∧ (Ru d kFewest_leastOf 0 [xL (M (a0 + 4) a1), xU] [] M (fun r N => Ru (d + 1) kFewest_hand 58 [xO 1 a0, xI a1, xL a2, xU, xI a4, xI a5, xI a5] [r] N Q))))) ∧ (¬ (a4 ≤ 32) → Q xU M))))) :
    Ru (d + 1) kFewest_hand 0 [xO 1 a0, xI a1, xL a2, xU, xI a4, xI a5, xU] [] M Q := sx_ok cFewest_hand 32 [58, 69, 92, 105, 119] rfl h
theorem vFewest_hand_58 {d : Nat} {M : xM} {Q : xQ} {a0 a1 a2 a4 a5 a6 s0 : Int}
    (h : Ru d kFewest_append 0 [xO 1 a0, xL a2, xU, xI a4, xI s0] [] M (fun r N => Ru (d + 1) kFewest_hand 69 [xO 1 a0, xI a1, xL a2, xU, xI a4, xI a5, xI s0] [] N Q)) :
    Ru (d + 1) kFewest_hand 58 [xO 1 a0, xI a1, xL a2, xU, xI a4, xI a5, xI a6] [xI s0] M Q := sx_ok cFewest_hand 7 [58, 69, 92, 105, 119] rfl h
theorem vFewest_hand_69 {d : Nat} {M : xM} {Q : xQ} {a0 a1 a2 a4 a5 a6 : Int}
    (h : (0 ≤ a1 ∧ a1 < 3723) ∧ (((M (a0 + 5) a1) < 0 → Ru (d + 1) kFewest_hand 119 [xO 1 a0, xI a1, xL a2, xU, xI a4, xI a5, xI a6] [] M Q) ∧ (¬ ((M (a0 + 5) a1) < 0) → Ru d kFewest_hand 0 [xO 1 a0, xI (z32 (a1 + 1)), xL a2, xU, xI (z32 (a4 + 1)), xI a6, xU] [] M (fun r N => Ru (d + 1) kFewest_hand 92 [xO 1 a0, xI a1, xL a2, xU, xI a4, xI a5, xI a6] [] N Q)))) :
    Ru (d + 1) kFewest_hand 69 [xO 1 a0, xI a1, xL a2, xU, xI a4, xI a5, xI a6] [] M Q := sx_ok cFewest_hand 16 [58, 69, 92, 105, 119] rfl h
theorem vFewest_hand_92 {d : Nat} {M : xM} {Q : xQ} {a0 a1 a2 a4 a5 a6 : Int}
    (h : (0 ≤ a1 ∧ a1 < 3723) ∧ (Ru d kRS_widthOf 0 [xI a4] [] M (fun r N => Ru (d + 1) kFewest_hand 105 [xO 1 a0, xI a1, xL a2, xU, xI a4, xI a5, xI a6] [r, xL a2, xI (M (a0 + 5) a1), xO 1 a0] N Q))) :
    Ru (d + 1) kFewest_hand 92 [xO 1 a0, xI a1, xL a2, xU, xI a4, xI a5, xI a6] [] M Q := sx_ok cFewest_hand 9 [58, 69, 92, 105, 119] rfl h
theorem vFewest_hand_105 {d : Nat} {M : xM} {Q : xQ} {a0 a1 a2 a4 a5 a6 s0 s1 s2 s3 : Int}
    (h : ¬ (2 : Int) = 0 ∧ (Ru d kFewest_hand 0 [xO 1 s3, xI s2, xL (z64 (s1 + (ldiv s0 2))), xU, xI (z32 (a4 + 1)), xI a6, xU] [] M (fun r N => Ru (d + 1) kFewest_hand 119 [xO 1 a0, xI a1, xL a2, xU, xI a4, xI a5, xI a6] [] N Q))) :
    Ru (d + 1) kFewest_hand 105 [xO 1 a0, xI a1, xL a2, xU, xI a4, xI a5, xI a6] [xL s0, xL s1, xI s2, xO 1 s3] M Q := sx_ok cFewest_hand 9 [58, 69, 92, 105, 119] rfl h
theorem vFewest_hand_119 {d : Nat} {M : xM} {Q : xQ} {a0 a1 a2 a4 a5 a6 : Int}
    (h : Q xU M) :
    Ru (d + 1) kFewest_hand 119 [xO 1 a0, xI a1, xL a2, xU, xI a4, xI a5, xI a6] [] M Q := sx_ok cFewest_hand 2 [58, 69, 92, 105, 119] rfl h
theorem vFewest_leastOf_0 {d : Nat} {M : xM} {Q : xQ} {a0 : Int}
    (h : Ru d kJ_bitCount 0 [xL (z64 ((land a0 (z64 (- a0))) - 1)), xU] [] M (fun r N => Ru (d + 1) kFewest_leastOf 9 [xL a0, xU] [r] N Q)) :
    Ru (d + 1) kFewest_leastOf 0 [xL a0, xU] [] M Q := sx_ok cFewest_leastOf 8 [9] rfl h
theorem vFewest_leastOf_9 {d : Nat} {M : xM} {Q : xQ} {a0 s0 : Int}
    (h : Q (xI (z32 (s0 - 1))) M) :
    Ru (d + 1) kFewest_leastOf 9 [xL a0, xU] [xI s0] M Q := sx_ok cFewest_leastOf 4 [9] rfl h
theorem vFewest_append_0 {d : Nat} {M : xM} {Q : xQ} {a0 a1 a3 a4 : Int}
    (h : (60 ≤ (M a0 0) → Q xU M) ∧ (¬ (60 ≤ (M a0 0)) → (0 ≤ (M a0 0) ∧ (M a0 0) < 60) ∧ ((0 ≤ ((up M (a0 + 1) (M a0 0) a1) a0 0) ∧ ((up M (a0 + 1) (M a0 0) a1) a0 0) < 60) ∧ ((0 ≤ ((up (up M (a0 + 1) (M a0 0) a1) (a0 + 2) ((up M (a0 + 1) (M a0 0) a1) a0 0) a3) a0 0) ∧ ((up (up M (a0 + 1) (M a0 0) a1) (a0 + 2) ((up M (a0 + 1) (M a0 0) a1) a0 0) a3) a0 0) < 60) ∧ (Q xU (up (up (up (up M (a0 + 1) (M a0 0) a1) (a0 + 2) ((up M (a0 + 1) (M a0 0) a1) a0 0) a3) (a0 + 3) ((up (up M (a0 + 1) (M a0 0) a1) (a0 + 2) ((up M (a0 + 1) (M a0 0) a1) a0 0) a3) a0 0) a4) a0 0 (z32 (((up (up (up M (a0 + 1) (M a0 0) a1) (a0 + 2) ((up M (a0 + 1) (M a0 0) a1) a0 0) a3) (a0 + 3) ((up (up M (a0 + 1) (M a0 0) a1) (a0 + 2) ((up M (a0 + 1) (M a0 0) a1) a0 0) a3) a0 0) a4) a0 0) + 1)))))))) :
    Ru d kFewest_append 0 [xO 1 a0, xL a1, xU, xI a3, xI a4] [] M Q := sx_ok cFewest_append 30 [] rfl h
theorem vKinds_find_0 {d : Nat} {M : xM} {Q : xQ} {a0 a1 : Int}
    (h : Ru (d + 1) kKinds_find 3 [xO 2 a0, xO 3 a1, xI 15, xU, xU] [] M Q) :
    Ru (d + 1) kKinds_find 0 [xO 2 a0, xO 3 a1, xU, xU, xU] [] M Q := sx_ok cKinds_find 3 [3, 9, 33, 39, 41, 68] rfl h
theorem vKinds_find_3 {d : Nat} {M : xM} {Q : xQ} {a0 a1 a2 : Int} {w3 w4 : xV}
    (h : (a2 < 0 → Q xU M) ∧ (¬ (a2 < 0) → Ru (d + 1) kKinds_find 9 [xO 2 a0, xO 3 a1, xI a2, xI 0, w4] [] M Q)) :
    Ru (d + 1) kKinds_find 3 [xO 2 a0, xO 3 a1, xI a2, w3, w4] [] M Q := sx_ok cKinds_find 5 [3, 9, 33, 39, 41, 68] rfl h
theorem vKinds_find_9 {d : Nat} {M : xM} {Q : xQ} {a0 a1 a2 a3 : Int} {w4 : xV}
    (h : (64 ≤ a3 → Ru d kNodes_behindLevel 0 [xO 3 a1, xI a2] [] M (fun r N => Ru (d + 1) kKinds_find 33 [xO 2 a0, xO 3 a1, xI a2, xI a3, w4] [r] N Q)) ∧ (¬ (64 ≤ a3) → (0 ≤ a3 ∧ a3 < 64) ∧ (Ru (d + 1) kKinds_find 9 [xO 2 a0, xO 3 a1, xI a2, xI (z32 (a3 + 1)), w4] [] (up M (a0 + 2) a3 (-1)) Q))) :
    Ru (d + 1) kKinds_find 9 [xO 2 a0, xO 3 a1, xI a2, xI a3, w4] [] M Q := sx_ok cKinds_find 11 [3, 9, 33, 39, 41, 68] rfl h
theorem vKinds_find_33 {d : Nat} {M : xM} {Q : xQ} {a0 a1 a2 a3 s0 : Int} {w4 : xV}
    (h : Ru d kNodes_startOfLevel 0 [xO 3 a1, xI a2] [] M (fun r N => Ru (d + 1) kKinds_find 39 [xO 2 a0, xO 3 a1, xI a2, xI s0, w4] [r] N Q)) :
    Ru (d + 1) kKinds_find 33 [xO 2 a0, xO 3 a1, xI a2, xI a3, w4] [xI s0] M Q := sx_ok cKinds_find 5 [3, 9, 33, 39, 41, 68] rfl h
theorem vKinds_find_39 {d : Nat} {M : xM} {Q : xQ} {a0 a1 a2 a3 s0 : Int} {w4 : xV}
    (h : Ru (d + 1) kKinds_find 41 [xO 2 a0, xO 3 a1, xI a2, xI a3, xI s0] [] M Q) :
    Ru (d + 1) kKinds_find 39 [xO 2 a0, xO 3 a1, xI a2, xI a3, w4] [xI s0] M Q := sx_ok cKinds_find 2 [3, 9, 33, 39, 41, 68] rfl h
theorem vKinds_find_41 {d : Nat} {M : xM} {Q : xQ} {a0 a1 a2 a3 a4 : Int}
    (h : (a3 ≤ a4 → Ru (d + 1) kKinds_find 3 [xO 2 a0, xO 3 a1, xI (z32 (a2 + (-1))), xI a3, xI a4] [] M Q) ∧ (¬ (a3 ≤ a4) → (901 ≤ a4 → Ru (d + 1) kKinds_find 3 [xO 2 a0, xO 3 a1, xI (z32 (a2 + (-1))), xI a3, xI a4] [] M Q) ∧ (¬ (901 ≤ a4) → Ru d kKinds_kindOf 0 [xO 2 a0, xO 3 a1, xI a4, xU, xU, xU] [] M (fun r N => Ru (d + 1) kKinds_find 68 [xO 2 a0, xO 3 a1, xI a2, xI a3, xI a4] [r, xI a4, xAI 901 (a0 + 1)] N Q)))) :
    Ru (d + 1) kKinds_find 41 [xO 2 a0, xO 3 a1, xI a2, xI a3, xI a4] [] M Q := sx_ok cKinds_find 14 [3, 9, 33, 39, 41, 68] rfl h
theorem vKinds_find_68 {d : Nat} {M : xM} {Q : xQ} {a0 a1 a2 a3 a4 s0 s1 s2 : Int}
    (h : (0 ≤ s1 ∧ s1 < 901) ∧ (Ru (d + 1) kKinds_find 41 [xO 2 a0, xO 3 a1, xI a2, xI a3, xI (z32 (a4 + 1))] [] (up M s2 s1 s0) Q)) :
    Ru (d + 1) kKinds_find 68 [xO 2 a0, xO 3 a1, xI a2, xI a3, xI a4] [xI s0, xI s1, xAI 901 s2] M Q := sx_ok cKinds_find 4 [3, 9, 33, 39, 41, 68] rfl h
theorem vKinds_kindOf_0 {d : Nat} {M : xM} {Q : xQ} {a0 a1 a2 : Int}
    (h : Ru d kKinds_rowOf 0 [xO 2 a0, xO 3 a1, xI a2, xU, xU, xU, xU, xU] [] M (fun r N => Ru (d + 1) kKinds_kindOf 6 [xO 2 a0, xO 3 a1, xI a2, xU, xU, xU] [r] N Q)) :
    Ru (d + 1) kKinds_kindOf 0 [xO 2 a0, xO 3 a1, xI a2, xU, xU, xU] [] M Q := sx_ok cKinds_kindOf 5 [6, 18, 47, 58, 79] rfl h
theorem vKinds_kindOf_6 {d : Nat} {M : xM} {Q : xQ} {a0 a1 a2 s0 : Int}
    (h : (0 ≤ s0 ∧ s0 < 64) ∧ (Ru (d + 1) kKinds_kindOf 18 [xO 2 a0, xO 3 a1, xI a2, xI s0, xI (M (a0 + 2) s0), xI 0] [] M Q)) :
    Ru (d + 1) kKinds_kindOf 6 [xO 2 a0, xO 3 a1, xI a2, xU, xU, xU] [xI s0] M Q := sx_ok cKinds_kindOf 9 [6, 18, 47, 58, 79] rfl h
theorem vKinds_kindOf_18 {d : Nat} {M : xM} {Q : xQ} {a0 a1 a2 a3 a4 a5 : Int}
    (h : (901 ≤ a5 → Ru (d + 1) kKinds_kindOf 79 [xO 2 a0, xO 3 a1, xI a2, xI a3, xI a4, xI a5] [] M Q) ∧ (¬ (901 ≤ a5) → (a4 < 0 → Ru (d + 1) kKinds_kindOf 79 [xO 2 a0, xO 3 a1, xI a2, xI a3, xI a4, xI a5] [] M Q) ∧ (¬ (a4 < 0) → (901 ≤ a4 → Ru (d + 1) kKinds_kindOf 79 [xO 2 a0, xO 3 a1, xI a2, xI a3, xI a4, xI a5] [] M Q) ∧ (¬ (901 ≤ a4) → Ru d kNodes_isSame 0 [xO 3 a1, xI a4, xO 3 a1, xI a2, xU, xU, xU, xU] [] M (fun r N => Ru (d + 1) kKinds_kindOf 47 [xO 2 a0, xO 3 a1, xI a2, xI a3, xI a4, xI a5] [r] N Q))))) :
    Ru (d + 1) kKinds_kindOf 18 [xO 2 a0, xO 3 a1, xI a2, xI a3, xI a4, xI a5] [] M Q := sx_ok cKinds_kindOf 14 [6, 18, 47, 58, 79] rfl h
theorem vKinds_kindOf_47 {d : Nat} {M : xM} {Q : xQ} {a0 a1 a2 a3 a4 a5 s0 : Int}
    (h : (s0 = 0 → (0 ≤ a4 ∧ a4 < 901) ∧ (Ru (d + 1) kKinds_kindOf 18 [xO 2 a0, xO 3 a1, xI a2, xI a3, xI (M (a0 + 3) a4), xI (z32 (a5 + 1))] [] M Q)) ∧ (¬ (s0 = 0) → Ru d kKinds_leadToLike 0 [xO 2 a0, xO 3 a1, xI a4, xI a2, xU, xU] [] M (fun r N => Ru (d + 1) kKinds_kindOf 58 [xO 2 a0, xO 3 a1, xI a2, xI a3, xI a4, xI a5] [r] N Q))) :
    Ru (d + 1) kKinds_kindOf 47 [xO 2 a0, xO 3 a1, xI a2, xI a3, xI a4, xI a5] [xI s0] M Q := sx_ok cKinds_kindOf 9 [6, 18, 47, 58, 79] rfl h
theorem vKinds_kindOf_58 {d : Nat} {M : xM} {Q : xQ} {a0 a1 a2 a3 a4 a5 s0 : Int}
    (h : (s0 = 0 → (0 ≤ a4 ∧ a4 < 901) ∧ (Ru (d + 1) kKinds_kindOf 18 [xO 2 a0, xO 3 a1, xI a2, xI a3, xI (M (a0 + 3) a4), xI (z32 (a5 + 1))] [] M Q)) ∧ (¬ (s0 = 0) → Q (xI a4) M)) :
    Ru (d + 1) kKinds_kindOf 58 [xO 2 a0, xO 3 a1, xI a2, xI a3, xI a4, xI a5] [xI s0] M Q := sx_ok cKinds_kindOf 9 [6, 18, 47, 58, 79] rfl h
theorem vKinds_kindOf_79 {d : Nat} {M : xM} {Q : xQ} {a0 a1 a2 a3 a4 a5 : Int}
    (h : (0 ≤ a3 ∧ a3 < 64) ∧ ((0 ≤ a2 ∧ a2 < 901) ∧ ((0 ≤ a3 ∧ a3 < 64) ∧ (Q (xI a2) (up (up M (a0 + 3) a2 (M (a0 + 2) a3)) (a0 + 2) a3 a2))))) :
    Ru (d + 1) kKinds_kindOf 79 [xO 2 a0, xO 3 a1, xI a2, xI a3, xI a4, xI a5] [] M Q := sx_ok cKinds_kindOf 16 [6, 18, 47, 58, 79] rfl h
theorem vKinds_rowOf_0 {d : Nat} {M : xM} {Q : xQ} {a0 a1 a2 : Int}
    (h : (0 ≤ a2 ∧ a2 < 901) ∧ ((0 ≤ a2 ∧ a2 < 901) ∧ (Ru d kNodes_storedBy 0 [xO 3 a1, xI a2] [] M (fun r N => Ru (d + 1) kKinds_rowOf 23 [xO 2 a0, xO 3 a1, xI a2, xL (z64 ((M (a1 + 3) a2) + (z64 (31 * (M (a1 + 4) a2))))), xU, xU, xU, xU] [r] N Q)))) :
    Ru (d + 1) kKinds_rowOf 0 [xO 2 a0, xO 3 a1, xI a2, xU, xU, xU, xU, xU] [] M Q := sx_ok cKinds_rowOf 16 [23, 28, 47, 65, 70, 90] rfl h
theorem vKinds_rowOf_23 {d : Nat} {M : xM} {Q : xQ} {a0 a1 a2 a3 s0 : Int}
    (h : Ru (d + 1) kKinds_rowOf 28 [xO 2 a0, xO 3 a1, xI a2, xL a3, xU, xI s0, xI 0, xU] [] M Q) :
    Ru (d + 1) kKinds_rowOf 23 [xO 2 a0, xO 3 a1, xI a2, xL a3, xU, xU, xU, xU] [xI s0] M Q := sx_ok cKinds_rowOf 4 [23, 28, 47, 65, 70, 90] rfl h
theorem vKinds_rowOf_28 {d : Nat} {M : xM} {Q : xQ} {a0 a1 a2 a3 a5 a6 : Int}
    (h : (a5 ≤ a6 → (0 ≤ a2 ∧ a2 < 901) ∧ (Ru d kJ_bitCount 0 [xL (M (a1 + 3) a2), xU] [] M (fun r N => Ru (d + 1) kKinds_rowOf 65 [xO 2 a0, xO 3 a1, xI a2, xL a3, xU, xI a5, xI a6, xU] [r] N Q))) ∧ (¬ (a5 ≤ a6) → Ru d kNodes_storedAt 0 [xO 3 a1, xI a2, xI a6] [] M (fun r N => Ru (d + 1) kKinds_rowOf 47 [xO 2 a0, xO 3 a1, xI a2, xL a3, xU, xI a5, xI a6, xU] [r, xL (z64 (31 * a3))] N Q))) :
    Ru (d + 1) kKinds_rowOf 28 [xO 2 a0, xO 3 a1, xI a2, xL a3, xU, xI a5, xI a6, xU] [] M Q := sx_ok cKinds_rowOf 11 [23, 28, 47, 65, 70, 90] rfl h
theorem vKinds_rowOf_47 {d : Nat} {M : xM} {Q : xQ} {a0 a1 a2 a3 a5 a6 s0 s1 : Int}
    (h : Ru (d + 1) kKinds_rowOf 28 [xO 2 a0, xO 3 a1, xI a2, xL (z64 (s1 + s0)), xU, xI a5, xI (z32 (a6 + 1)), xU] [] M Q) :
    Ru (d + 1) kKinds_rowOf 47 [xO 2 a0, xO 3 a1, xI a2, xL a3, xU, xI a5, xI a6, xU] [xI s0, xL s1] M Q := sx_ok cKinds_rowOf 6 [23, 28, 47, 65, 70, 90] rfl h
theorem vKinds_rowOf_65 {d : Nat} {M : xM} {Q : xQ} {a0 a1 a2 a3 a5 a6 s0 : Int}
    (h : Ru (d + 1) kKinds_rowOf 70 [xO 2 a0, xO 3 a1, xI a2, xL a3, xU, xI a5, xI s0, xI 0] [] M Q) :
    Ru (d + 1) kKinds_rowOf 65 [xO 2 a0, xO 3 a1, xI a2, xL a3, xU, xI a5, xI a6, xU] [xI s0] M Q := sx_ok cKinds_rowOf 4 [23, 28, 47, 65, 70, 90] rfl h
theorem vKinds_rowOf_70 {d : Nat} {M : xM} {Q : xQ} {a0 a1 a2 a3 a5 a6 a7 : Int}
    (h : (a6 ≤ a7 → Q (xI (iand (z32 (lxor a3 (lshr a3 32))) 63)) M) ∧ (¬ (a6 ≤ a7) → Ru d kKinds_kindOfChild 0 [xO 2 a0, xO 3 a1, xI a2, xI a7, xU] [] M (fun r N => Ru (d + 1) kKinds_rowOf 90 [xO 2 a0, xO 3 a1, xI a2, xL a3, xU, xI a5, xI a6, xI a7] [r, xL (z64 (31 * a3))] N Q))) :
    Ru (d + 1) kKinds_rowOf 70 [xO 2 a0, xO 3 a1, xI a2, xL a3, xU, xI a5, xI a6, xI a7] [] M Q := sx_ok cKinds_rowOf 13 [23, 28, 47, 65, 70, 90] rfl h
theorem vKinds_rowOf_90 {d : Nat} {M : xM} {Q : xQ} {a0 a1 a2 a3 a5 a6 a7 s0 s1 : Int}
    (h : Ru (d + 1) kKinds_rowOf 70 [xO 2 a0, xO 3 a1, xI a2, xL (z64 (s1 + s0)), xU, xI a5, xI a6, xI (z32 (a7 + 1))] [] M Q) :
    Ru (d + 1) kKinds_rowOf 90 [xO 2 a0, xO 3 a1, xI a2, xL a3, xU, xI a5, xI a6, xI a7] [xI s0, xL s1] M Q := sx_ok cKinds_rowOf 6 [23, 28, 47, 65, 70, 90] rfl h
theorem vKinds_leadToLike_0 {d : Nat} {M : xM} {Q : xQ} {a0 a1 a2 a3 : Int}
    (h : (0 ≤ a3 ∧ a3 < 901) ∧ (Ru d kJ_bitCount 0 [xL (M (a1 + 3) a3), xU] [] M (fun r N => Ru (d + 1) kKinds_leadToLike 9 [xO 2 a0, xO 3 a1, xI a2, xI a3, xU, xU] [r] N Q))) :
    Ru (d + 1) kKinds_leadToLike 0 [xO 2 a0, xO 3 a1, xI a2, xI a3, xU, xU] [] M Q := sx_ok cKinds_leadToLike 6 [9, 14, 29, 37] rfl h
theorem vKinds_leadToLike_9 {d : Nat} {M : xM} {Q : xQ} {a0 a1 a2 a3 s0 : Int}
    (h : Ru (d + 1) kKinds_leadToLike 14 [xO 2 a0, xO 3 a1, xI a2, xI a3, xI s0, xI 0] [] M Q) :
    Ru (d + 1) kKinds_leadToLike 9 [xO 2 a0, xO 3 a1, xI a2, xI a3, xU, xU] [xI s0] M Q := sx_ok cKinds_leadToLike 4 [9, 14, 29, 37] rfl h
theorem vKinds_leadToLike_14 {d : Nat} {M : xM} {Q : xQ} {a0 a1 a2 a3 a4 a5 : Int}
    (h : (a4 ≤ a5 → Q (xI 1) M) ∧ (¬ (a4 ≤ a5) → Ru d kKinds_kindOfChild 0 [xO 2 a0, xO 3 a1, xI a2, xI a5, xU] [] M (fun r N => Ru (d + 1) kKinds_leadToLike 29 [xO 2 a0, xO 3 a1, xI a2, xI a3, xI a4, xI a5] [r] N Q))) :
    Ru (d + 1) kKinds_leadToLike 14 [xO 2 a0, xO 3 a1, xI a2, xI a3, xI a4, xI a5] [] M Q := sx_ok cKinds_leadToLike 9 [9, 14, 29, 37] rfl h
theorem vKinds_leadToLike_29 {d : Nat} {M : xM} {Q : xQ} {a0 a1 a2 a3 a4 a5 s0 : Int}
    (h : Ru d kKinds_kindOfChild 0 [xO 2 a0, xO 3 a1, xI a3, xI a5, xU] [] M (fun r N => Ru (d + 1) kKinds_leadToLike 37 [xO 2 a0, xO 3 a1, xI a2, xI a3, xI a4, xI a5] [r, xI s0] N Q)) :
    Ru (d + 1) kKinds_leadToLike 29 [xO 2 a0, xO 3 a1, xI a2, xI a3, xI a4, xI a5] [xI s0] M Q := sx_ok cKinds_leadToLike 6 [9, 14, 29, 37] rfl h
theorem vKinds_leadToLike_37 {d : Nat} {M : xM} {Q : xQ} {a0 a1 a2 a3 a4 a5 s0 s1 : Int}
    (h : (s1 = s0 → Ru (d + 1) kKinds_leadToLike 14 [xO 2 a0, xO 3 a1, xI a2, xI a3, xI a4, xI (z32 (a5 + 1))] [] M Q) ∧ (¬ (s1 = s0) → Q (xI 0) M)) :
    Ru (d + 1) kKinds_leadToLike 37 [xO 2 a0, xO 3 a1, xI a2, xI a3, xI a4, xI a5] [xI s0, xI s1] M Q := sx_ok cKinds_leadToLike 4 [9, 14, 29, 37] rfl h
theorem vKinds_kindOfChild_0 {d : Nat} {M : xM} {Q : xQ} {a0 a1 a2 a3 : Int}
    (h : (0 ≤ a2 ∧ a2 < 901) ∧ (Ru d kNodes_has 0 [xO 3 a1, xI (z32 ((M (a1 + 6) a2) + a3))] [] M (fun r N => Ru (d + 1) kKinds_kindOfChild 16 [xO 2 a0, xO 3 a1, xI a2, xI a3, xI (z32 ((M (a1 + 6) a2) + a3))] [r] N Q))) :
    Ru (d + 1) kKinds_kindOfChild 0 [xO 2 a0, xO 3 a1, xI a2, xI a3, xU] [] M Q := sx_ok cKinds_kindOfChild 11 [16] rfl h
theorem vKinds_kindOfChild_16 {d : Nat} {M : xM} {Q : xQ} {a0 a1 a2 a3 a4 s0 : Int}
    (h : (s0 = 0 → Q (xI (-1)) M) ∧ (¬ (s0 = 0) → (0 ≤ a4 ∧ a4 < 901) ∧ (Q (xI (M (a0 + 1) a4)) M))) :
    Ru (d + 1) kKinds_kindOfChild 16 [xO 2 a0, xO 3 a1, xI a2, xI a3, xI a4] [xI s0] M Q := sx_ok cKinds_kindOfChild 8 [16] rfl h
theorem vKinds_unlikeIn_0 {d : Nat} {M : xM} {Q : xQ} {a0 a1 a2 : Int}
    (h : Ru d kKinds_unlikeIn 5 [xO 2 a0, xI a1, xI a2, xI 0, xI a1] [] M Q) :
    Ru d kKinds_unlikeIn 0 [xO 2 a0, xI a1, xI a2, xU, xU] [] M Q := sx_ok cKinds_unlikeIn 5 [5] rfl h
theorem vKinds_unlikeIn_5 {d : Nat} {M : xM} {Q : xQ} {a0 a1 a2 a3 a4 : Int}
    (h : (a4 < 0 → Q (xI a3) M) ∧ (¬ (a4 < 0) → (a2 ≤ a4 → Q (xI a3) M) ∧ (¬ (a2 ≤ a4) → (901 ≤ a4 → Q (xI a3) M) ∧ (¬ (901 ≤ a4) → (0 ≤ a4 ∧ a4 < 901) ∧ ((¬ (M (a0 + 1) a4) = a4 → Ru d kKinds_unlikeIn 5 [xO 2 a0, xI a1, xI a2, xI (z32 (a3 + 0)), xI (z32 (a4 + 1))] [] M Q) ∧ (¬ (¬ (M (a0 + 1) a4) = a4) → Ru d kKinds_unlikeIn 5 [xO 2 a0, xI a1, xI a2, xI (z32 (a3 + 1)), xI (z32 (a4 + 1))] [] M Q)))))) :
    Ru d kKinds_unlikeIn 5 [xO 2 a0, xI a1, xI a2, xI a3, xI a4] [] M Q := sx_ok cKinds_unlikeIn 22 [5] rfl h
theorem vNodes_build_0 {d : Nat} {M : xM} {Q : xQ} {a0 a1 a2 : Int}
    (h : Ru (d + 1) kNodes_build 15 [xO 3 a0, xO 6 a1, xO 5 a2, xI 0, xU, xU, xU] [] (up M a0 15 (mn (M a1 6) 16)) Q) :
    Ru (d + 1) kNodes_build 0 [xO 3 a0, xO 6 a1, xO 5 a2, xU, xU, xU, xU] [] M Q := sx_ok cNodes_build 9 [15, 80, 82, 118, 133] rfl h
theorem vNodes_build_15 {d : Nat} {M : xM} {Q : xQ} {a0 a1 a2 a3 : Int}
    (h : ((M a0 15) ≤ a3 → Ru d kNodes_append 0 [xO 3 a0, xL 0, xU, xI 0, xI (-1), xI 0] [] (up (up M a0 0 0) a0 16 0) (fun r N => Ru (d + 1) kNodes_build 80 [xO 3 a0, xO 6 a1, xO 5 a2, xI a3, xU, xU, xU] [] N Q)) ∧ (¬ ((M a0 15) ≤ a3) → (0 ≤ a3 ∧ a3 < 16) ∧ ((0 ≤ a3 ∧ a3 < 16) ∧ ((0 ≤ a3 ∧ a3 < 17) ∧ ((0 ≤ a3 ∧ a3 < 16) ∧ ((0 ≤ (z32 (a3 + 1)) ∧ (z32 (a3 + 1)) < 17) ∧ (Ru (d + 1) kNodes_build 15 [xO 3 a0, xO 6 a1, xO 5 a2, xI (z32 (a3 + 1)), xU, xU, xU] [] (up (up M (a0 + 14) a3 (M (a1 + 6) a3)) (a0 + 13) (z32 (a3 + 1)) (z32 (((up M (a0 + 14) a3 (M (a1 + 6) a3)) (a0 + 13) a3) + ((up M (a0 + 14) a3 (M (a1 + 6) a3)) (a0 + 14) a3)))) Q))))))) :
    Ru (d + 1) kNodes_build 15 [xO 3 a0, xO 6 a1, xO 5 a2, xI a3, xU, xU, xU] [] M Q := sx_ok cNodes_build 30 [15, 80, 82, 118, 133] rfl h
theorem vNodes_build_80 {d : Nat} {M : xM} {Q : xQ} {a0 a1 a2 a3 : Int}
    (h : Ru (d + 1) kNodes_build 82 [xO 3 a0, xO 6 a1, xO 5 a2, xI 0, xU, xU, xU] [] M Q) :
    Ru (d + 1) kNodes_build 80 [xO 3 a0, xO 6 a1, xO 5 a2, xI a3, xU, xU, xU] [] M Q := sx_ok cNodes_build 3 [15, 80, 82, 118, 133] rfl h
theorem vNodes_build_82 {d : Nat} {M : xM} {Q : xQ} {a0 a1 a2 a3 : Int} {w4 w5 w6 : xV}
    (h : ((M a0 15) ≤ a3 → Q xU M) ∧ (¬ ((M a0 15) ≤ a3) → (0 ≤ a3 ∧ a3 < 17) ∧ ((0 ≤ (z32 (a3 + 1)) ∧ (z32 (a3 + 1)) < 17) ∧ (Ru (d + 1) kNodes_build 118 [xO 3 a0, xO 6 a1, xO 5 a2, xI a3, xI (M (a0 + 12) a3), xI (M a0 0), xI (M (a0 + 12) a3)] [] (up M (a0 + 12) (z32 (a3 + 1)) (M a0 0)) Q)))) :
    Ru (d + 1) kNodes_build 82 [xO 3 a0, xO 6 a1, xO 5 a2, xI a3, w4, w5, w6] [] M Q := sx_ok cNodes_build 22 [15, 80, 82, 118, 133] rfl h
theorem vNodes_build_118 {d : Nat} {M : xM} {Q : xQ} {a0 a1 a2 a3 a4 a5 a6 : Int}
    (h : (a5 ≤ a6 → Ru (d + 1) kNodes_build 82 [xO 3 a0, xO 6 a1, xO 5 a2, xI (z32 (a3 + 1)), xI a4, xI a5, xI a6] [] M Q) ∧ (¬ (a5 ≤ a6) → Ru d kNodes_fill 0 [xO 3 a0, xI a6, xI a3, xO 5 a2, xU, xU, xU, xU, xU, xU, xU, xU, xU, xU] [] M (fun r N => Ru (d + 1) kNodes_build 133 [xO 3 a0, xO 6 a1, xO 5 a2, xI a3, xI a4, xI a5, xI a6] [] N Q))) :
    Ru (d + 1) kNodes_build 118 [xO 3 a0, xO 6 a1, xO 5 a2, xI a3, xI a4, xI a5, xI a6] [] M Q := sx_ok cNodes_build 9 [15, 80, 82, 118, 133] rfl h
theorem vNodes_build_133 {d : Nat} {M : xM} {Q : xQ} {a0 a1 a2 a3 a4 a5 a6 : Int}
    (h : Ru (d + 1) kNodes_build 118 [xO 3 a0, xO 6 a1, xO 5 a2, xI a3, xI a4, xI a5, xI (z32 (a6 + 1))] [] M Q) :
    Ru (d + 1) kNodes_build 133 [xO 3 a0, xO 6 a1, xO 5 a2, xI a3, xI a4, xI a5, xI a6] [] M Q := sx_ok cNodes_build 3 [15, 80, 82, 118, 133] rfl h
set_option maxRecDepth 20000 in
theorem vNodes_append_0 {d : Nat} {M : xM} {Q : xQ} {a0 a1 a3 a4 a5 : Int}
    (h : ((M a0 0) < 901 → (0 ≤ (M a0 0) ∧ (M a0 0) < 901) ∧ ((0 ≤ ((up M (a0 + 1) (M a0 0) a1) a0 0) ∧ ((up M (a0 + 1) (M a0 0) a1) a0 0) < 901) ∧ ((0 ≤ ((up (up M (a0 + 1) (M a0 0) a1) (a0 + 2) ((up M (a0 + 1) (M a0 0) a1) a0 0) a3) a0 0) ∧ ((up (up M (a0 + 1) (M a0 0) a1) (a0 + 2) ((up M (a0 + 1) (M a0 0) a1) a0 0) a3) a0 0) < 901) ∧ ((0 ≤ ((up (up (up M (a0 + 1) (M a0 0) a1) (a0 + 2) ((up M (a0 + 1) (M a0 0) a1) a0 0) a3) (a0 + 5) ((up (up M (a0 + 1) (M a0 0) a1) (a0 + 2) ((up M (a0 + 1) (M a0 0) a1) a0 0) a3) a0 0) a4) a0 0) ∧ ((up (up (up M (a0 + 1) (M a0 0) a1) (a0 + 2) ((up M (a0 + 1) (M a0 0) a1) a0 0) a3) (a0 + 5) ((up (up M (a0 + 1) (M a0 0) a1) (a0 + 2) ((up M (a0 + 1) (M a0 0) a1) a0 0) a3) a0 0) a4) a0 0) < 901) ∧ ((0 ≤ ((up (up (up (up M (a0 + 1) (M a0 0) a1) (a0 + 2) ((up M (a0 + 1) (M a0 0) a1) a0 0) a3) (a0 + 5) ((up (up M (a0 + 1) (M a0 0) a1) (a0 + 2) ((up M (a0 + 1) (M a0 0) a1) a0 0) a3) a0 0) a4) (a0 + 11) ((up (up (up M (a0 + 1) (M a0 0) a1) (a0 + 2) ((up M (a0 + 1) (M a0 0) a1) a0 0) a3) (a0 + 5) ((up (up M (a0 + 1) (M a0 0) a1) (a0 + 2) ((up M (a0 + 1) (M a0 0) a1) a0 0) a3) a0 0) a4) a0 0) a5) a0 0) ∧ ((up (up (up (up M (a0 + 1) (M a0 0) a1) (a0 + 2) ((up M (a0 + 1) (M a0 0) a1) a0 0) a3) (a0 + 5) ((up (up M (a0 + 1) (M a0 0) a1) (a0 + 2) ((up M (a0 + 1) (M a0 0) a1) a0 0) a3) a0 0) a4) (a0 + 11) ((up (up (up M (a0 + 1) (M a0 0) a1) (a0 + 2) ((up M (a0 + 1) (M a0 0) a1) a0 0) a3) (a0 + 5) ((up (up M (a0 + 1) (M a0 0) a1) (a0 + 2) ((up M (a0 + 1) (M a0 0) a1) a0 0) a3) a0 0) a4) a0 0) a5) a0 0) < 901) ∧ ((0 ≤ ((up (up (up (up (up M (a0 + 1) (M a0 0) a1) (a0 + 2) ((up M (a0 + 1) (M a0 0) a1) a0 0) a3) (a0 + 5) ((up (up M (a0 + 1) (M a0 0) a1) (a0 + 2) ((up M (a0 + 1) (M a0 0) a1) a0 0) a3) a0 0) a4) (a0 + 11) ((up (up (up M (a0 + 1) (M a0 0) a1) (a0 + 2) ((up M (a0 + 1) (M a0 0) a1) a0 0) a3) (a0 + 5) ((up (up M (a0 + 1) (M a0 0) a1) (a0 + 2) ((up M (a0 + 1) (M a0 0) a1) a0 0) a3) a0 0) a4) a0 0) a5) (a0 + 3) ((up (up (up (up M (a0 + 1) (M a0 0) a1) (a0 + 2) ((up M (a0 + 1) (M a0 0) a1) a0 0) a3) (a0 + 5) ((up (up M (a0 + 1) (M a0 0) a1) (a0 + 2) ((up M (a0 + 1) (M a0 0) a1) a0 0) a3) a0 0) a4) (a0 + 11) ((up (up (up M (a0 + 1) (M a0 0) a1) (a0 + 2) ((up M (a0 + 1) (M a0 0) a1) a0 0) a3) (a0 + 5) ((up (up M (a0 + 1) (M a0 0) a1) (a0 + 2) ((up M (a0 + 1) (M a0 0) a1) a0 0) a3) a0 0) a4) a0 0) a5) a0 0) 0) a0 0) ∧ ((up (up (up (up (up M (a0 + 1) (M a0 0) a1) (a0 + 2) ((up M (a0 + 1) (M a0 0) a1) a0 0) a3) (a0 + 5) ((up (up M (a0 + 1) (M a0 0) a1) (a0 + 2) ((up M (a0 + 1) (M a0 0) a1) a0 0) a3) a0 0) a4) (a0 + 11) ((up (up (up M (a0 + 1) (M a0 0) a1) (a0 + 2) ((up M (a0 + 1) (M a0 0) a1) a0 0) a3) (a0 + 5) ((up (up M (a0 + 1) (M a0 0) a1) (a0 + 2) ((up M (a0 + 1) (M a0 0) a1) a0 0) a3) a0 0) a4) a0 0) a5) (a0 + 3) ((up (up (up (up M (a0 + 1) (M a0 0) a1) (a0 + 2) ((up M (a0 + 1) (M a0 0) a1) a0 0) a3) (a0 + 5) ((up (up M (a0 + 1) (M a0 0) a1) (a0 + 2) ((up M (a0 + 1) (M a0 0) a1) a0 0) a3) a0 0) a4) (a0 + 11) ((up (up (up M (a0 + 1) (M a0 0) a1) (a0 + 2) ((up M (a0 + 1) (M a0 0) a1) a0 0) a3) (a0 + 5) ((up (up M (a0 + 1) (M a0 0) a1) (a0 + 2) ((up M (a0 + 1) (M a0 0) a1) a0 0) a3) a0 0) a4) a0 0) a5) a0 0) 0) a0 0) < 901) ∧ (Q xU (up (up (up (up (up (up (up M (a0 + 1) (M a0 0) a1) (a0 + 2) ((up M (a0 + 1) (M a0 0) a1) a0 0) a3) (a0 + 5) ((up (up M (a0 + 1) (M a0 0) a1) (a0 + 2) ((up M (a0 + 1) (M a0 0) a1) a0 0) a3) a0 0) a4) (a0 + 11) ((up (up (up M (a0 + 1) (M a0 0) a1) (a0 + 2) ((up M (a0 + 1) (M a0 0) a1) a0 0) a3) (a0 + 5) ((up (up M (a0 + 1) (M a0 0) a1) (a0 + 2) ((up M (a0 + 1) (M a0 0) a1) a0 0) a3) a0 0) a4) a0 0) a5) (a0 + 3) ((up (up (up (up M (a0 + 1) (M a0 0) a1) (a0 + 2) ((up M (a0 + 1) (M a0 0) a1) a0 0) a3) (a0 + 5) ((up (up M (a0 + 1) (M a0 0) a1) (a0 + 2) ((up M (a0 + 1) (M a0 0) a1) a0 0) a3) a0 0) a4) (a0 + 11) ((up (up (up M (a0 + 1) (M a0 0) a1) (a0 + 2) ((up M (a0 + 1) (M a0 0) a1) a0 0) a3) (a0 + 5) ((up (up M (a0 + 1) (M a0 0) a1) (a0 + 2) ((up M (a0 + 1) (M a0 0) a1) a0 0) a3) a0 0) a4) a0 0) a5) a0 0) 0) (a0 + 4) ((up (up (up (up (up M (a0 + 1) (M a0 0) a1) (a0 + 2) ((up M (a0 + 1) (M a0 0) a1) a0 0) a3) (a0 + 5) ((up (up M (a0 + 1) (M a0 0) a1) (a0 + 2) ((up M (a0 + 1) (M a0 0) a1) a0 0) a3) a0 0) a4) (a0 + 11) ((up (up (up M (a0 + 1) (M a0 0) a1) (a0 + 2) ((up M (a0 + 1) (M a0 0) a1) a0 0) a3) (a0 + 5) ((up (up M (a0 + 1) (M a0 0) a1) (a0 + 2) ((up M (a0 + 1) (M a0 0) a1) a0 0) a3) a0 0) a4) a0 0) a5) (a0 + 3) ((up (up (up (up M (a0 + 1) (M a0 0) a1) (a0 + 2) ((up M (a0 + 1) (M a0 0) a1) a0 0) a3) (a0 + 5) ((up (up M (a0 + 1) (M a0 0) a1) (a0 + 2) ((up M (a0 + 1) (M a0 0) a1) a0 0) a3) a0 0) a4) (a0 + 11) ((up (up (up M (a0 + 1) (M a0 0) a1) (a0 + 2) ((up M (a0 + 1) (M a0 0) a1) a0 0) a3) (a0 + 5) ((up (up M (a0 + 1) (M a0 0) a1) (a0 + 2) ((up M (a0 + 1) (M a0 0) a1) a0 0) a3) a0 0) a4) a0 0) a5) a0 0) 0) a0 0) 0) a0 0 (z32 (((up (up (up (up (up (up M (a0 + 1) (M a0 0) a1) (a0 + 2) ((up M (a0 + 1) (M a0 0) a1) a0 0) a3) (a0 + 5) ((up (up M (a0 + 1) (M a0 0) a1) (a0 + 2) ((up M (a0 + 1) (M a0 0) a1) a0 0) a3) a0 0) a4) (a0 + 11) ((up (up (up M (a0 + 1) (M a0 0) a1) (a0 + 2) ((up M (a0 + 1) (M a0 0) a1) a0 0) a3) (a0 + 5) ((up (up M (a0 + 1) (M a0 0) a1) (a0 + 2) ((up M (a0 + 1) (M a0 0) a1) a0 0) a3) a0 0) a4) a0 0) a5) (a0 + 3) ((up (up (up (up M (a0 + 1) (M a0 0) a1) (a0 + 2) ((up M (a0 + 1) (M a0 0) a1) a0 0) a3) (a0 + 5) ((up (up M (a0 + 1) (M a0 0) a1) (a0 + 2) ((up M (a0 + 1) (M a0 0) a1) a0 0) a3) a0 0) a4) (a0 + 11) ((up (up (up M (a0 + 1) (M a0 0) a1) (a0 + 2) ((up M (a0 + 1) (M a0 0) a1) a0 0) a3) (a0 + 5) ((up (up M (a0 + 1) (M a0 0) a1) (a0 + 2) ((up M (a0 + 1) (M a0 0) a1) a0 0) a3) a0 0) a4) a0 0) a5) a0 0) 0) (a0 + 4) ((up (up (up (up (up M (a0 + 1) (M a0 0) a1) (a0 + 2) ((up M (a0 + 1) (M a0 0) a1) a0 0) a3) (a0 + 5) ((up (up M (a0 + 1) (M a0 0) a1) (a0 + 2) ((up M (a0 + 1) (M a0 0) a1) a0 0) a3) a0 0) a4) (a0 + 11) ((up (up (up M (a0 + 1) (M a0 0) a1) (a0 + 2) ((up M (a0 + 1) (M a0 0) a1) a0 0) a3) (a0 + 5) ((up (up M (a0 + 1) (M a0 0) a1) (a0 + 2) ((up M (a0 + 1) (M a0 0) a1) a0 0) a3) a0 0) a4) a0 0) a5) (a0 + 3) ((up (up (up (up M (a0 + 1) (M a0 0) a1) (a0 + 2) ((up M (a0 + 1) (M a0 0) a1) a0 0) a3) (a0 + 5) ((up (up M (a0 + 1) (M a0 0) a1) (a0 + 2) ((up M (a0 + 1) (M a0 0) a1) a0 0) a3) a0 0) a4) (a0 + 11) ((up (up (up M (a0 + 1) (M a0 0) a1) (a0 + 2) ((up M (a0 + 1) (M a0 0) a1) a0 0) a3) (a0 + 5) ((up (up M (a0 + 1) (M a0 0) a1) (a0 + 2) ((up M (a0 + 1) (M a0 0) a1) a0 0) a3) a0 0) a4) a0 0) a5) a0 0) 0) a0 0) 0) a0 0) + 1)))))))))) ∧ (¬ ((M a0 0) < 901) → Q xU M)) :
    Ru d kNodes_append 0 [xO 3 a0, xL a1, xU, xI a3, xI a4, xI a5] [] M Q := sx_ok cNodes_append 48 [] rfl h
theorem vNodes_fill_0 {d : Nat} {M : xM} {Q : xQ} {a0 a1 a2 a3 : Int}
    (h : (0 ≤ a2 ∧ a2 < 16) ∧ ((0 ≤ (z32 (a2 + 1)) ∧ (z32 (a2 + 1)) < 17) ∧ ((0 ≤ a1 ∧ a1 < 901) ∧ ((0 ≤ a1 ∧ a1 < 901) ∧ ((0 ≤ a1 ∧ a1 < 902) ∧ (Ru (d + 1) kNodes_fill 61 [xO 3 a0, xI a1, xI a2, xO 5 a3, xI (ishl 1 (M (a0 + 14) a2)), xI (z32 (32 - (M (a0 + 13) (z32 (a2 + 1))))), xI (M (a0 + 11) a1), xI (-2), xI 1, xI 0, xU, xU, xU, xU] [] (up (up M (a0 + 6) a1 (M a0 0)) (a0 + 8) a1 ((up M (a0 + 6) a1 (M a0 0)) a0 16)) Q)))))) :
    Ru (d + 1) kNodes_fill 0 [xO 3 a0, xI a1, xI a2, xO 5 a3, xU, xU, xU, xU, xU, xU, xU, xU, xU, xU] [] M Q := sx_ok cNodes_fill 40 [61, 91, 145, 195] rfl h
theorem vNodes_fill_61 {d : Nat} {M : xM} {Q : xQ} {a0 a1 a2 a3 a4 a5 a6 a7 a8 a9 : Int} {w10 w12 : xV}
    (h : (a4 ≤ a9 → (0 ≤ (z32 (a1 + 1)) ∧ (z32 (a1 + 1)) < 902) ∧ (Q xU (up M (a0 + 8) (z32 (a1 + 1)) (M a0 16)))) ∧ (¬ (a4 ≤ a9) → (0 ≤ a1 ∧ a1 < 901) ∧ (Ru d kSpans_spanWith 0 [xO 5 a3, xL (z64 ((M (a0 + 1) a1) + (lshl a9 a5))), xU, xI a6, xU] [] M (fun r N => Ru (d + 1) kNodes_fill 91 [xO 3 a0, xI a1, xI a2, xO 5 a3, xI a4, xI a5, xI a6, xI a7, xI a8, xI a9, xL (z64 ((M (a0 + 1) a1) + (lshl a9 a5))), xU, w12, xU] [r] N Q)))) :
    Ru (d + 1) kNodes_fill 61 [xO 3 a0, xI a1, xI a2, xO 5 a3, xI a4, xI a5, xI a6, xI a7, xI a8, xI a9, w10, xU, w12, xU] [] M Q := sx_ok cNodes_fill 18 [61, 91, 145, 195] rfl h
set_option maxRecDepth 20000 in
theorem vNodes_fill_91 {d : Nat} {M : xM} {Q : xQ} {a0 a1 a2 a3 a4 a5 a6 a7 a8 a9 a10 s0 : Int} {w12 : xV}
    (h : (0 ≤ s0 ∧ s0 < 121) ∧ ((0 < (lshr (z64 ((z64 ((M (a3 + 2) s0) - a10)) + 1)) a5) → (0 ≤ s0 ∧ s0 < 121) ∧ (((M (a3 + 3) s0) = a7 → Ru (d + 1) kNodes_fill 195 [xO 3 a0, xI a1, xI a2, xO 5 a3, xI a4, xI a5, xI s0, xI a7, xI 1, xI a9, xL a10, xU, xL (lshr (z64 ((z64 ((M (a3 + 2) s0) - a10)) + 1)) a5), xU] [] M Q) ∧ (¬ ((M (a3 + 3) s0) = a7) → (0 ≤ s0 ∧ s0 < 121) ∧ ((0 ≤ a1 ∧ a1 < 901) ∧ ((0 ≤ a1 ∧ a1 < 901) ∧ ((0 ≤ s0 ∧ s0 < 121) ∧ (Ru d kNodes_store 0 [xO 3 a0, xI (M (a3 + 3) s0), xI ((up M (a0 + 4) a1 (lor (M (a0 + 4) a1) (lshl 1 a9))) (a3 + 4) s0)] [] (up M (a0 + 4) a1 (lor (M (a0 + 4) a1) (lshl 1 a9))) (fun r N => Ru (d + 1) kNodes_fill 195 [xO 3 a0, xI a1, xI a2, xO 5 a3, xI a4, xI a5, xI s0, xI (M (a3 + 3) s0), xI 1, xI a9, xL a10, xU, xL (lshr (z64 ((z64 ((M (a3 + 2) s0) - a10)) + 1)) a5), xU] [] N Q)))))))) ∧ (¬ (0 < (lshr (z64 ((z64 ((M (a3 + 2) s0) - a10)) + 1)) a5)) → (0 ≤ a1 ∧ a1 < 901) ∧ ((0 ≤ a1 ∧ a1 < 901) ∧ (Ru d kNodes_append 0 [xO 3 a0, xL a10, xU, xI (z32 (a2 + 1)), xI a1, xI s0] [] (up M (a0 + 3) a1 (lor (M (a0 + 3) a1) (lshl 1 a9))) (fun r N => Ru (d + 1) kNodes_fill 145 [xO 3 a0, xI a1, xI a2, xO 5 a3, xI a4, xI a5, xI s0, xI a7, xI 1, xI a9, xL a10, xU, xL (lshr (z64 ((z64 ((M (a3 + 2) s0) - a10)) + 1)) a5), xU] [] N Q)))))) :
    Ru (d + 1) kNodes_fill 91 [xO 3 a0, xI a1, xI a2, xO 5 a3, xI a4, xI a5, xI a6, xI a7, xI a8, xI a9, xL a10, xU, w12, xU] [xI s0] M Q := sx_ok cNodes_fill 46 [61, 91, 145, 195] rfl h
theorem vNodes_fill_145 {d : Nat} {M : xM} {Q : xQ} {a0 a1 a2 a3 a4 a5 a6 a7 a8 a9 a10 a12 : Int}
    (h : Ru (d + 1) kNodes_fill 61 [xO 3 a0, xI a1, xI a2, xO 5 a3, xI a4, xI a5, xI a6, xI a7, xI a8, xI (z32 (a9 + a8)), xL a10, xU, xL a12, xU] [] M Q) :
    Ru (d + 1) kNodes_fill 145 [xO 3 a0, xI a1, xI a2, xO 5 a3, xI a4, xI a5, xI a6, xI a7, xI a8, xI a9, xL a10, xU, xL a12, xU] [] M Q := sx_ok cNodes_fill 7 [61, 91, 145, 195] rfl h
theorem vNodes_fill_195 {d : Nat} {M : xM} {Q : xQ} {a0 a1 a2 a3 a4 a5 a6 a7 a8 a9 a10 a12 : Int}
    (h : Ru (d + 1) kNodes_fill 61 [xO 3 a0, xI a1, xI a2, xO 5 a3, xI a4, xI a5, xI a6, xI a7, xI (z32 (mn a12 a4)), xI (z32 (a9 + (z32 (mn a12 a4)))), xL a10, xU, xL a12, xU] [] M Q) :
    Ru (d + 1) kNodes_fill 195 [xO 3 a0, xI a1, xI a2, xO 5 a3, xI a4, xI a5, xI a6, xI a7, xI a8, xI a9, xL a10, xU, xL a12, xU] [] M Q := sx_ok cNodes_fill 12 [61, 91, 145, 195] rfl h
theorem vNodes_store_0 {d : Nat} {M : xM} {Q : xQ} {a0 a1 a2 : Int}
    (h : (2837 ≤ (M a0 16) → Q xU M) ∧ (¬ (2837 ≤ (M a0 16)) → (0 ≤ (M a0 16) ∧ (M a0 16) < 2837) ∧ ((0 ≤ ((up M (a0 + 9) (M a0 16) a1) a0 16) ∧ ((up M (a0 + 9) (M a0 16) a1) a0 16) < 2837) ∧ (Q xU (up (up (up M (a0 + 9) (M a0 16) a1) (a0 + 10) ((up M (a0 + 9) (M a0 16) a1) a0 16) a2) a0 16 (z32 (((up (up M (a0 + 9) (M a0 16) a1) (a0 + 10) ((up M (a0 + 9) (M a0 16) a1) a0 16) a2) a0 16) + 1))))))) :
    Ru d kNodes_store 0 [xO 3 a0, xI a1, xI a2] [] M Q := sx_ok cNodes_store 24 [] rfl h
theorem vNodes_has_0 {d : Nat} {M : xM} {Q : xQ} {a0 a1 : Int}
    (h : (a1 < 0 → Q (xI 0) M) ∧ (¬ (a1 < 0) → ((M a0 0) ≤ a1 → Q (xI 0) M) ∧ (¬ ((M a0 0) ≤ a1) → (901 ≤ a1 → Q (xI 0) M) ∧ (¬ (901 ≤ a1) → Q (xI 1) M)))) :
    Ru d kNodes_has 0 [xO 3 a0, xI a1] [] M Q := sx_ok cNodes_has 13 [] rfl h
theorem vNodes_startOfLevel_0 {d : Nat} {M : xM} {Q : xQ} {a0 a1 : Int}
    (h : (a1 < 0 → Q (xI (M a0 0)) M) ∧ (¬ (a1 < 0) → ((M a0 15) ≤ a1 → Q (xI (M a0 0)) M) ∧ (¬ ((M a0 15) ≤ a1) → (0 ≤ a1 ∧ a1 < 17) ∧ (Q (xI (M (a0 + 12) a1)) M)))) :
    Ru d kNodes_startOfLevel 0 [xO 3 a0, xI a1] [] M Q := sx_ok cNodes_startOfLevel 13 [] rfl h
theorem vNodes_behindLevel_0 {d : Nat} {M : xM} {Q : xQ} {a0 a1 : Int}
    (h : (a1 < 0 → Q (xI (M a0 0)) M) ∧ (¬ (a1 < 0) → ((M a0 15) ≤ (z32 (a1 + 1)) → Q (xI (M a0 0)) M) ∧ (¬ ((M a0 15) ≤ (z32 (a1 + 1))) → (0 ≤ (z32 (a1 + 1)) ∧ (z32 (a1 + 1)) < 17) ∧ (Q (xI (M (a0 + 12) (z32 (a1 + 1)))) M)))) :
    Ru d kNodes_behindLevel 0 [xO 3 a0, xI a1] [] M Q := sx_ok cNodes_behindLevel 17 [] rfl h
theorem vNodes_slotsOf_0 {d : Nat} {M : xM} {Q : xQ} {a0 a1 : Int}
    (h : Ru d kNodes_has 0 [xO 3 a0, xI a1] [] M (fun r N => Ru (d + 1) kNodes_slotsOf 5 [xO 3 a0, xI a1] [r] N Q)) :
    Ru (d + 1) kNodes_slotsOf 0 [xO 3 a0, xI a1] [] M Q := sx_ok cNodes_slotsOf 4 [5] rfl h
theorem vNodes_slotsOf_5 {d : Nat} {M : xM} {Q : xQ} {a0 a1 s0 : Int}
    (h : (s0 = 0 → Q (xI 0) M) ∧ (¬ (s0 = 0) → (0 ≤ a1 ∧ a1 < 901) ∧ ((0 ≤ (M (a0 + 2) a1) ∧ (M (a0 + 2) a1) < 16) ∧ (Q (xI (ishl 1 (M (a0 + 14) (M (a0 + 2) a1)))) M)))) :
    Ru (d + 1) kNodes_slotsOf 5 [xO 3 a0, xI a1] [xI s0] M Q := sx_ok cNodes_slotsOf 13 [5] rfl h
theorem vNodes_storedBy_0 {d : Nat} {M : xM} {Q : xQ} {a0 a1 : Int}
    (h : Ru d kNodes_has 0 [xO 3 a0, xI a1] [] M (fun r N => Ru (d + 1) kNodes_storedBy 5 [xO 3 a0, xI a1] [r] N Q)) :
    Ru (d + 1) kNodes_storedBy 0 [xO 3 a0, xI a1] [] M Q := sx_ok cNodes_storedBy 4 [5] rfl h
theorem vNodes_storedBy_5 {d : Nat} {M : xM} {Q : xQ} {a0 a1 s0 : Int}
    (h : (s0 = 0 → Q (xI 0) M) ∧ (¬ (s0 = 0) → (0 ≤ (z32 (a1 + 1)) ∧ (z32 (a1 + 1)) < 902) ∧ ((0 ≤ a1 ∧ a1 < 902) ∧ (Q (xI (z32 ((M (a0 + 8) (z32 (a1 + 1))) - (M (a0 + 8) a1)))) M)))) :
    Ru (d + 1) kNodes_storedBy 5 [xO 3 a0, xI a1] [xI s0] M Q := sx_ok cNodes_storedBy 15 [5] rfl h
theorem vNodes_storedAt_0 {d : Nat} {M : xM} {Q : xQ} {a0 a1 a2 : Int}
    (h : Ru d kNodes_has 0 [xO 3 a0, xI a1] [] M (fun r N => Ru (d + 1) kNodes_storedAt 5 [xO 3 a0, xI a1, xI a2] [r] N Q)) :
    Ru (d + 1) kNodes_storedAt 0 [xO 3 a0, xI a1, xI a2] [] M Q := sx_ok cNodes_storedAt 4 [5] rfl h
theorem vNodes_storedAt_5 {d : Nat} {M : xM} {Q : xQ} {a0 a1 a2 s0 : Int}
    (h : (s0 = 0 → Q (xI (-2)) M) ∧ (¬ (s0 = 0) → (a2 < 0 → Q (xI (-2)) M) ∧ (¬ (a2 < 0) → (0 ≤ (z32 (a1 + 1)) ∧ (z32 (a1 + 1)) < 902) ∧ ((0 ≤ a1 ∧ a1 < 902) ∧ (((z32 ((M (a0 + 8) (z32 (a1 + 1))) - (M (a0 + 8) a1))) ≤ a2 → Q (xI (-2)) M) ∧ (¬ ((z32 ((M (a0 + 8) (z32 (a1 + 1))) - (M (a0 + 8) a1))) ≤ a2) → (0 ≤ a1 ∧ a1 < 902) ∧ ((0 ≤ (z32 ((M (a0 + 8) a1) + a2)) ∧ (z32 ((M (a0 + 8) a1) + a2)) < 2837) ∧ (Q (xI (M (a0 + 9) (z32 ((M (a0 + 8) a1) + a2)))) M)))))))) :
    Ru (d + 1) kNodes_storedAt 5 [xO 3 a0, xI a1, xI a2] [xI s0] M Q := sx_ok cNodes_storedAt 28 [5] rfl h
theorem vNodes_storedIn_0 {d : Nat} {M : xM} {Q : xQ} {a0 a1 a2 : Int}
    (h : (a1 < 0 → Q (xI 0) M) ∧ (¬ (a1 < 0) → (a2 ≤ a1 → Q (xI 0) M) ∧ (¬ (a2 ≤ a1) → (901 < a2 → Q (xI 0) M) ∧ (¬ (901 < a2) → (0 ≤ a2 ∧ a2 < 902) ∧ ((0 ≤ a1 ∧ a1 < 902) ∧ (Q (xI (z32 ((M (a0 + 8) a2) - (M (a0 + 8) a1)))) M)))))) :
    Ru d kNodes_storedIn 0 [xO 3 a0, xI a1, xI a2] [] M Q := sx_ok cNodes_storedIn 20 [] rfl h
theorem vNodes_childAt_0 {d : Nat} {M : xM} {Q : xQ} {a0 a1 a2 : Int}
    (h : Ru d kNodes_has 0 [xO 3 a0, xI a1] [] M (fun r N => Ru (d + 1) kNodes_childAt 5 [xO 3 a0, xI a1, xI a2] [r] N Q)) :
    Ru (d + 1) kNodes_childAt 0 [xO 3 a0, xI a1, xI a2] [] M Q := sx_ok cNodes_childAt 4 [5, 18, 59] rfl h
theorem vNodes_childAt_5 {d : Nat} {M : xM} {Q : xQ} {a0 a1 a2 s0 : Int}
    (h : (s0 = 0 → Q (xI (-1)) M) ∧ (¬ (s0 = 0) → (a2 < 0 → Q (xI (-1)) M) ∧ (¬ (a2 < 0) → Ru d kNodes_slotsOf 0 [xO 3 a0, xI a1] [] M (fun r N => Ru (d + 1) kNodes_childAt 18 [xO 3 a0, xI a1, xI a2] [r, xI a2] N Q)))) :
    Ru (d + 1) kNodes_childAt 5 [xO 3 a0, xI a1, xI a2] [xI s0] M Q := sx_ok cNodes_childAt 8 [5, 18, 59] rfl h
theorem vNodes_childAt_18 {d : Nat} {M : xM} {Q : xQ} {a0 a1 a2 s0 s1 : Int}
    (h : (s0 ≤ s1 → Q (xI (-1)) M) ∧ (¬ (s0 ≤ s1) → (0 ≤ a1 ∧ a1 < 901) ∧ ((¬ (land (M (a0 + 3) a1) (lshl 1 a2)) = 0 → (0 ≤ a1 ∧ a1 < 901) ∧ ((0 ≤ a1 ∧ a1 < 901) ∧ (Ru d kJ_bitCount 0 [xL (land (M (a0 + 3) a1) (z64 ((lshl 1 a2) - 1))), xU] [] M (fun r N => Ru (d + 1) kNodes_childAt 59 [xO 3 a0, xI a1, xI a2] [r, xI (M (a0 + 6) a1)] N Q)))) ∧ (¬ (¬ (land (M (a0 + 3) a1) (lshl 1 a2)) = 0) → Q (xI (-1)) M)))) :
    Ru (d + 1) kNodes_childAt 18 [xO 3 a0, xI a1, xI a2] [xI s0, xI s1] M Q := sx_ok cNodes_childAt 27 [5, 18, 59] rfl h
theorem vNodes_childAt_59 {d : Nat} {M : xM} {Q : xQ} {a0 a1 a2 s0 s1 : Int}
    (h : Q (xI (z32 (s1 + s0))) M) :
    Ru (d + 1) kNodes_childAt 59 [xO 3 a0, xI a1, xI a2] [xI s0, xI s1] M Q := sx_ok cNodes_childAt 3 [5, 18, 59] rfl h
theorem vNodes_placeAt_0 {d : Nat} {M : xM} {Q : xQ} {a0 a1 a2 : Int}
    (h : (0 ≤ a1 ∧ a1 < 901) ∧ (Ru d kJ_bitCount 0 [xL (land (M (a0 + 4) a1) (z64 ((lshl 2 a2) - 1))), xU] [] M (fun r N => Ru (d + 1) kNodes_placeAt 17 [xO 3 a0, xI a1, xI a2] [r] N Q))) :
    Ru (d + 1) kNodes_placeAt 0 [xO 3 a0, xI a1, xI a2] [] M Q := sx_ok cNodes_placeAt 12 [17] rfl h
theorem vNodes_placeAt_17 {d : Nat} {M : xM} {Q : xQ} {a0 a1 a2 s0 : Int}
    (h : Q (xI (z32 (s0 - 1))) M) :
    Ru (d + 1) kNodes_placeAt 17 [xO 3 a0, xI a1, xI a2] [xI s0] M Q := sx_ok cNodes_placeAt 4 [17] rfl h
theorem vNodes_leafHop_0 {d : Nat} {M : xM} {Q : xQ} {a0 a1 a2 : Int}
    (h : Ru d kNodes_has 0 [xO 3 a0, xI a1] [] M (fun r N => Ru (d + 1) kNodes_leafHop 5 [xO 3 a0, xI a1, xI a2, xU] [r] N Q)) :
    Ru (d + 1) kNodes_leafHop 0 [xO 3 a0, xI a1, xI a2, xU] [] M Q := sx_ok cNodes_leafHop 4 [5, 18, 35] rfl h
theorem vNodes_leafHop_5 {d : Nat} {M : xM} {Q : xQ} {a0 a1 a2 s0 : Int}
    (h : (s0 = 0 → Q (xI (-1)) M) ∧ (¬ (s0 = 0) → (a2 < 0 → Q (xI (-1)) M) ∧ (¬ (a2 < 0) → Ru d kNodes_slotsOf 0 [xO 3 a0, xI a1] [] M (fun r N => Ru (d + 1) kNodes_leafHop 18 [xO 3 a0, xI a1, xI a2, xU] [r, xI a2] N Q)))) :
    Ru (d + 1) kNodes_leafHop 5 [xO 3 a0, xI a1, xI a2, xU] [xI s0] M Q := sx_ok cNodes_leafHop 8 [5, 18, 35] rfl h
theorem vNodes_leafHop_18 {d : Nat} {M : xM} {Q : xQ} {a0 a1 a2 s0 s1 : Int}
    (h : (s1 < s0 → (0 ≤ a1 ∧ a1 < 902) ∧ (Ru d kNodes_placeAt 0 [xO 3 a0, xI a1, xI a2] [] M (fun r N => Ru (d + 1) kNodes_leafHop 35 [xO 3 a0, xI a1, xI a2, xU] [r, xI (M (a0 + 8) a1)] N Q))) ∧ (¬ (s1 < s0) → Q (xI (-1)) M)) :
    Ru (d + 1) kNodes_leafHop 18 [xO 3 a0, xI a1, xI a2, xU] [xI s0, xI s1] M Q := sx_ok cNodes_leafHop 10 [5, 18, 35] rfl h
theorem vNodes_leafHop_35 {d : Nat} {M : xM} {Q : xQ} {a0 a1 a2 s0 s1 : Int}
    (h : ((z32 (s1 + s0)) < 0 → Q (xI (-1)) M) ∧ (¬ ((z32 (s1 + s0)) < 0) → ((M a0 16) ≤ (z32 (s1 + s0)) → Q (xI (-1)) M) ∧ (¬ ((M a0 16) ≤ (z32 (s1 + s0))) → (0 ≤ (z32 (s1 + s0)) ∧ (z32 (s1 + s0)) < 2837) ∧ (Q (xI (M (a0 + 9) (z32 (s1 + s0)))) M)))) :
    Ru (d + 1) kNodes_leafHop 35 [xO 3 a0, xI a1, xI a2, xU] [xI s0, xI s1] M Q := sx_ok cNodes_leafHop 15 [5, 18, 35] rfl h
theorem vNodes_slotOf_0 {d : Nat} {M : xM} {Q : xQ} {a0 a1 a3 : Int}
    (h : (a3 < 0 → Q (xI 0) M) ∧ (¬ (a3 < 0) → (a3 < (M a0 15) → (0 ≤ (z32 (a3 + 1)) ∧ (z32 (a3 + 1)) < 17) ∧ ((0 ≤ a3 ∧ a3 < 16) ∧ (Q (xI (iand (z32 (lshr a1 (z32 (32 - (M (a0 + 13) (z32 (a3 + 1))))))) (z32 ((ishl 1 (M (a0 + 14) a3)) - 1)))) M))) ∧ (¬ (a3 < (M a0 15)) → Q (xI 0) M))) :
    Ru d kNodes_slotOf 0 [xO 3 a0, xL a1, xU, xI a3] [] M Q := sx_ok cNodes_slotOf 28 [] rfl h
theorem vNodes_goTo_0 {d : Nat} {M : xM} {Q : xQ} {a0 a1 : Int}
    (h : Ru (d + 1) kNodes_goTo 7 [xO 3 a0, xL a1, xU, xI 0] [] (up M a0 17 0) Q) :
    Ru (d + 1) kNodes_goTo 0 [xO 3 a0, xL a1, xU, xU] [] M Q := sx_ok cNodes_goTo 6 [7, 23, 47, 50] rfl h
theorem vNodes_goTo_7 {d : Nat} {M : xM} {Q : xQ} {a0 a1 a3 : Int}
    (h : ((M a0 15) ≤ (M a0 17) → Q (xI (M a0 17)) M) ∧ (¬ ((M a0 15) ≤ (M a0 17)) → Ru d kNodes_has 0 [xO 3 a0, xI a3] [] M (fun r N => Ru (d + 1) kNodes_goTo 23 [xO 3 a0, xL a1, xU, xI a3] [r] N Q))) :
    Ru (d + 1) kNodes_goTo 7 [xO 3 a0, xL a1, xU, xI a3] [] M Q := sx_ok cNodes_goTo 9 [7, 23, 47, 50] rfl h
theorem vNodes_goTo_23 {d : Nat} {M : xM} {Q : xQ} {a0 a1 a3 s0 : Int}
    (h : (s0 = 0 → Q (xI (M a0 17)) M) ∧ (¬ (s0 = 0) → (0 ≤ (M a0 17) ∧ (M a0 17) < 16) ∧ (Ru d kNodes_slotOf 0 [xO 3 a0, xL a1, xU, xI ((up M (a0 + 7) (M a0 17) a3) a0 17)] [] (up M (a0 + 7) (M a0 17) a3) (fun r N => Ru (d + 1) kNodes_goTo 47 [xO 3 a0, xL a1, xU, xI a3] [r, xI a3, xO 3 a0] N Q)))) :
    Ru (d + 1) kNodes_goTo 23 [xO 3 a0, xL a1, xU, xI a3] [xI s0] M Q := sx_ok cNodes_goTo 15 [7, 23, 47, 50] rfl h
theorem vNodes_goTo_47 {d : Nat} {M : xM} {Q : xQ} {a0 a1 a3 s0 s1 s2 : Int}
    (h : Ru d kNodes_childAt 0 [xO 3 s2, xI s1, xI s0] [] M (fun r N => Ru (d + 1) kNodes_goTo 50 [xO 3 a0, xL a1, xU, xI a3] [r] N Q)) :
    Ru (d + 1) kNodes_goTo 47 [xO 3 a0, xL a1, xU, xI a3] [xI s0, xI s1, xO 3 s2] M Q := sx_ok cNodes_goTo 2 [7, 23, 47, 50] rfl h
theorem vNodes_goTo_50 {d : Nat} {M : xM} {Q : xQ} {a0 a1 a3 s0 : Int}
    (h : Ru (d + 1) kNodes_goTo 7 [xO 3 a0, xL a1, xU, xI s0] [] (up M a0 17 (z32 ((M a0 17) + 1))) Q) :
    Ru (d + 1) kNodes_goTo 50 [xO 3 a0, xL a1, xU, xI a3] [xI s0] M Q := sx_ok cNodes_goTo 9 [7, 23, 47, 50] rfl h
theorem vNodes_placeOf_0 {d : Nat} {M : xM} {Q : xQ} {a0 a1 : Int}
    (h : ((M a0 17) ≤ 0 → Q (xI (-1)) M) ∧ (¬ ((M a0 17) ≤ 0) → (16 < (M a0 17) → Q (xI (-1)) M) ∧ (¬ (16 < (M a0 17)) → (0 ≤ (z32 ((M a0 17) - 1)) ∧ (z32 ((M a0 17) - 1)) < 16) ∧ (Ru d kNodes_has 0 [xO 3 a0, xI (M (a0 + 7) (z32 ((M a0 17) - 1)))] [] M (fun r N => Ru (d + 1) kNodes_placeOf 31 [xO 3 a0, xL a1, xU] [r] N Q))))) :
    Ru (d + 1) kNodes_placeOf 0 [xO 3 a0, xL a1, xU] [] M Q := sx_ok cNodes_placeOf 17 [31, 59, 62] rfl h
theorem vNodes_placeOf_31 {d : Nat} {M : xM} {Q : xQ} {a0 a1 s0 : Int}
    (h : (¬ s0 = 0 → (0 ≤ (z32 ((M a0 17) - 1)) ∧ (z32 ((M a0 17) - 1)) < 16) ∧ (Ru d kNodes_slotOf 0 [xO 3 a0, xL a1, xU, xI (z32 ((M a0 17) - 1))] [] M (fun r N => Ru (d + 1) kNodes_placeOf 59 [xO 3 a0, xL a1, xU] [r, xI (M (a0 + 7) (z32 ((M a0 17) - 1))), xO 3 a0] N Q))) ∧ (¬ (¬ s0 = 0) → Q (xI (-1)) M)) :
    Ru (d + 1) kNodes_placeOf 31 [xO 3 a0, xL a1, xU] [xI s0] M Q := sx_ok cNodes_placeOf 17 [31, 59, 62] rfl h
theorem vNodes_placeOf_59 {d : Nat} {M : xM} {Q : xQ} {a0 a1 s0 s1 s2 : Int}
    (h : Ru d kNodes_placeAt 0 [xO 3 s2, xI s1, xI s0] [] M (fun r N => Ru (d + 1) kNodes_placeOf 62 [xO 3 a0, xL a1, xU] [r] N Q)) :
    Ru (d + 1) kNodes_placeOf 59 [xO 3 a0, xL a1, xU] [xI s0, xI s1, xO 3 s2] M Q := sx_ok cNodes_placeOf 2 [31, 59, 62] rfl h
theorem vNodes_placeOf_62 {d : Nat} {M : xM} {Q : xQ} {a0 a1 s0 : Int}
    (h : Q (xI s0) M) :
    Ru (d + 1) kNodes_placeOf 62 [xO 3 a0, xL a1, xU] [xI s0] M Q := sx_ok cNodes_placeOf 2 [31, 59, 62] rfl h
theorem vNodes_deepest_0 {d : Nat} {M : xM} {Q : xQ} {a0 : Int}
    (h : Ru d kNodes_has 0 [xO 3 a0, xI (z32 ((M a0 0) - 1))] [] M (fun r N => Ru (d + 1) kNodes_deepest 10 [xO 3 a0] [r] N Q)) :
    Ru (d + 1) kNodes_deepest 0 [xO 3 a0] [] M Q := sx_ok cNodes_deepest 7 [10] rfl h
theorem vNodes_deepest_10 {d : Nat} {M : xM} {Q : xQ} {a0 s0 : Int}
    (h : (s0 = 0 → Q (xI 0) M) ∧ (¬ (s0 = 0) → (0 ≤ (z32 ((M a0 0) - 1)) ∧ (z32 ((M a0 0) - 1)) < 901) ∧ (Q (xI (z32 ((M (a0 + 2) (z32 ((M a0 0) - 1))) + 1))) M))) :
    Ru (d + 1) kNodes_deepest 10 [xO 3 a0] [xI s0] M Q := sx_ok cNodes_deepest 13 [10] rfl h
theorem vNodes_allSteps_0 {d : Nat} {M : xM} {Q : xQ} {a0 : Int}
    (h : Ru (d + 1) kNodes_allSteps 4 [xO 3 a0, xL 0, xU, xI 0] [] M Q) :
    Ru (d + 1) kNodes_allSteps 0 [xO 3 a0, xU, xU, xU] [] M Q := sx_ok cNodes_allSteps 5 [4, 18, 23, 34] rfl h
theorem vNodes_allSteps_4 {d : Nat} {M : xM} {Q : xQ} {a0 a1 a3 : Int}
    (h : ((M a0 15) ≤ a3 → Q (xL a1) M) ∧ (¬ ((M a0 15) ≤ a3) → Ru d kNodes_behindLevel 0 [xO 3 a0, xI a3] [] M (fun r N => Ru (d + 1) kNodes_allSteps 18 [xO 3 a0, xL a1, xU, xI a3] [r, xL a1] N Q))) :
    Ru (d + 1) kNodes_allSteps 4 [xO 3 a0, xL a1, xU, xI a3] [] M Q := sx_ok cNodes_allSteps 9 [4, 18, 23, 34] rfl h
theorem vNodes_allSteps_18 {d : Nat} {M : xM} {Q : xQ} {a0 a1 a3 s0 s1 : Int}
    (h : Ru d kNodes_startOfLevel 0 [xO 3 a0, xI a3] [] M (fun r N => Ru (d + 1) kNodes_allSteps 23 [xO 3 a0, xL a1, xU, xI a3] [r, xI s0, xL s1] N Q)) :
    Ru (d + 1) kNodes_allSteps 18 [xO 3 a0, xL a1, xU, xI a3] [xI s0, xL s1] M Q := sx_ok cNodes_allSteps 4 [4, 18, 23, 34] rfl h
theorem vNodes_allSteps_23 {d : Nat} {M : xM} {Q : xQ} {a0 a1 a3 s0 s1 s2 : Int}
    (h : (0 ≤ a3 ∧ a3 < 17) ∧ (Ru d kRS_widthOf 0 [xI (M (a0 + 13) a3)] [] M (fun r N => Ru (d + 1) kNodes_allSteps 34 [xO 3 a0, xL a1, xU, xI a3] [r, xL (z32 (s1 - s0)), xL s2] N Q))) :
    Ru (d + 1) kNodes_allSteps 23 [xO 3 a0, xL a1, xU, xI a3] [xI s0, xI s1, xL s2] M Q := sx_ok cNodes_allSteps 8 [4, 18, 23, 34] rfl h
theorem vNodes_allSteps_34 {d : Nat} {M : xM} {Q : xQ} {a0 a1 a3 s0 s1 s2 : Int}
    (h : Ru (d + 1) kNodes_allSteps 4 [xO 3 a0, xL (z64 (s2 + (z64 (s1 * s0)))), xU, xI (z32 (a3 + 1))] [] M Q) :
    Ru (d + 1) kNodes_allSteps 34 [xO 3 a0, xL a1, xU, xI a3] [xL s0, xL s1, xL s2] M Q := sx_ok cNodes_allSteps 6 [4, 18, 23, 34] rfl h
theorem vNodes_isSame_0 {d : Nat} {M : xM} {Q : xQ} {a0 a1 a2 a3 : Int}
    (h : Ru d kNodes_has 0 [xO 3 a0, xI a1] [] M (fun r N => Ru (d + 1) kNodes_isSame 5 [xO 3 a0, xI a1, xO 3 a2, xI a3, xU, xU, xU, xU] [r] N Q)) :
    Ru (d + 1) kNodes_isSame 0 [xO 3 a0, xI a1, xO 3 a2, xI a3, xU, xU, xU, xU] [] M Q := sx_ok cNodes_isSame 4 [5, 13, 92] rfl h
theorem vNodes_isSame_5 {d : Nat} {M : xM} {Q : xQ} {a0 a1 a2 a3 s0 : Int}
    (h : (s0 = 0 → Q (xI 0) M) ∧ (¬ (s0 = 0) → Ru d kNodes_has 0 [xO 3 a2, xI a3] [] M (fun r N => Ru (d + 1) kNodes_isSame 13 [xO 3 a0, xI a1, xO 3 a2, xI a3, xU, xU, xU, xU] [r] N Q))) :
    Ru (d + 1) kNodes_isSame 5 [xO 3 a0, xI a1, xO 3 a2, xI a3, xU, xU, xU, xU] [xI s0] M Q := sx_ok cNodes_isSame 5 [5, 13, 92] rfl h
set_option maxRecDepth 20000 in
theorem vNodes_isSame_13 {d : Nat} {M : xM} {Q : xQ} {a0 a1 a2 a3 s0 : Int}
    (h : (s0 = 0 → Q (xI 0) M) ∧ (¬ (s0 = 0) → (0 ≤ a1 ∧ a1 < 901) ∧ ((0 ≤ a3 ∧ a3 < 901) ∧ ((¬ (M (a0 + 3) a1) = (M (a2 + 3) a3) → Q (xI 0) M) ∧ (¬ (¬ (M (a0 + 3) a1) = (M (a2 + 3) a3)) → (0 ≤ a1 ∧ a1 < 901) ∧ ((0 ≤ a3 ∧ a3 < 901) ∧ (((M (a0 + 4) a1) = (M (a2 + 4) a3) → (0 ≤ (z32 (a1 + 1)) ∧ (z32 (a1 + 1)) < 902) ∧ ((0 ≤ a1 ∧ a1 < 902) ∧ ((0 ≤ (z32 (a3 + 1)) ∧ (z32 (a3 + 1)) < 902) ∧ ((0 ≤ a3 ∧ a3 < 902) ∧ (((z32 ((M (a0 + 8) (z32 (a1 + 1))) - (M (a0 + 8) a1))) = (z32 ((M (a2 + 8) (z32 (a3 + 1))) - (M (a2 + 8) a3))) → Ru (d + 1) kNodes_isSame 92 [xO 3 a0, xI a1, xO 3 a2, xI a3, xI (z32 ((M (a0 + 8) (z32 (a1 + 1))) - (M (a0 + 8) a1))), xI 0, xU, xU] [] M Q) ∧ (¬ ((z32 ((M (a0 + 8) (z32 (a1 + 1))) - (M (a0 + 8) a1))) = (z32 ((M (a2 + 8) (z32 (a3 + 1))) - (M (a2 + 8) a3)))) → Q (xI 0) M)))))) ∧ (¬ ((M (a0 + 4) a1) = (M (a2 + 4) a3)) → Q (xI 0) M)))))))) :
    Ru (d + 1) kNodes_isSame 13 [xO 3 a0, xI a1, xO 3 a2, xI a3, xU, xU, xU, xU] [xI s0] M Q := sx_ok cNodes_isSame 47 [5, 13, 92] rfl h
theorem vNodes_isSame_92 {d : Nat} {M : xM} {Q : xQ} {a0 a1 a2 a3 a4 a5 : Int} {w6 w7 : xV}
    (h : (a4 ≤ a5 → Q (xI 1) M) ∧ (¬ (a4 ≤ a5) → (0 ≤ a1 ∧ a1 < 902) ∧ ((0 ≤ a3 ∧ a3 < 902) ∧ ((2837 ≤ (z32 ((M (a0 + 8) a1) + a5)) → Q (xI 0) M) ∧ (¬ (2837 ≤ (z32 ((M (a0 + 8) a1) + a5))) → (2837 ≤ (z32 ((M (a2 + 8) a3) + a5)) → Q (xI 0) M) ∧ (¬ (2837 ≤ (z32 ((M (a2 + 8) a3) + a5))) → (0 ≤ (z32 ((M (a0 + 8) a1) + a5)) ∧ (z32 ((M (a0 + 8) a1) + a5)) < 2837) ∧ ((0 ≤ (z32 ((M (a2 + 8) a3) + a5)) ∧ (z32 ((M (a2 + 8) a3) + a5)) < 2837) ∧ (((M (a0 + 10) (z32 ((M (a0 + 8) a1) + a5))) = (M (a2 + 10) (z32 ((M (a2 + 8) a3) + a5))) → Ru (d + 1) kNodes_isSame 92 [xO 3 a0, xI a1, xO 3 a2, xI a3, xI a4, xI (z32 (a5 + 1)), xI (z32 ((M (a0 + 8) a1) + a5)), xI (z32 ((M (a2 + 8) a3) + a5))] [] M Q) ∧ (¬ ((M (a0 + 10) (z32 ((M (a0 + 8) a1) + a5))) = (M (a2 + 10) (z32 ((M (a2 + 8) a3) + a5)))) → Q (xI 0) M))))))))) :
    Ru (d + 1) kNodes_isSame 92 [xO 3 a0, xI a1, xO 3 a2, xI a3, xI a4, xI a5, w6, w7] [] M Q := sx_ok cNodes_isSame 35 [5, 13, 92] rfl h
theorem vNodes_othersThan_0 {d : Nat} {M : xM} {Q : xQ} {a0 a1 : Int}
    (h : Ru (d + 1) kNodes_othersThan 10 [xO 3 a0, xO 3 a1, xI 0, xI 0, xI 0, xI 0, xU, xU] [] M Q) :
    Ru (d + 1) kNodes_othersThan 0 [xO 3 a0, xO 3 a1, xU, xU, xU, xU, xU, xU] [] M Q := sx_ok cNodes_othersThan 9 [10, 23, 32, 43, 60, 63, 66] rfl h
theorem vNodes_othersThan_10 {d : Nat} {M : xM} {Q : xQ} {a0 a1 a2 a3 a4 a5 : Int} {w6 : xV}
    (h : (1802 ≤ a5 → Q (xI (z32 ((z32 (a2 + (z32 ((M a0 0) - a3)))) + (z32 ((M a1 0) - a4))))) M) ∧ (¬ (1802 ≤ a5) → Ru d kNodes_has 0 [xO 3 a0, xI a3] [] M (fun r N => Ru (d + 1) kNodes_othersThan 23 [xO 3 a0, xO 3 a1, xI a2, xI a3, xI a4, xI a5, w6, xU] [r] N Q))) :
    Ru (d + 1) kNodes_othersThan 10 [xO 3 a0, xO 3 a1, xI a2, xI a3, xI a4, xI a5, w6, xU] [] M Q := sx_ok cNodes_othersThan 16 [10, 23, 32, 43, 60, 63, 66] rfl h
theorem vNodes_othersThan_23 {d : Nat} {M : xM} {Q : xQ} {a0 a1 a2 a3 a4 a5 s0 : Int} {w6 : xV}
    (h : (s0 = 0 → Q (xI (z32 ((z32 (a2 + (z32 ((M a0 0) - a3)))) + (z32 ((M a1 0) - a4))))) M) ∧ (¬ (s0 = 0) → Ru d kNodes_has 0 [xO 3 a1, xI a4] [] M (fun r N => Ru (d + 1) kNodes_othersThan 32 [xO 3 a0, xO 3 a1, xI a2, xI a3, xI a4, xI a5, w6, xU] [r] N Q))) :
    Ru (d + 1) kNodes_othersThan 23 [xO 3 a0, xO 3 a1, xI a2, xI a3, xI a4, xI a5, w6, xU] [xI s0] M Q := sx_ok cNodes_othersThan 14 [10, 23, 32, 43, 60, 63, 66] rfl h
theorem vNodes_othersThan_32 {d : Nat} {M : xM} {Q : xQ} {a0 a1 a2 a3 a4 a5 s0 : Int} {w6 : xV}
    (h : (s0 = 0 → Q (xI (z32 ((z32 (a2 + (z32 ((M a0 0) - a3)))) + (z32 ((M a1 0) - a4))))) M) ∧ (¬ (s0 = 0) → Ru d kNodes_orderOf 0 [xO 3 a0, xI a3, xO 3 a1, xI a4, xU] [] M (fun r N => Ru (d + 1) kNodes_othersThan 43 [xO 3 a0, xO 3 a1, xI a2, xI a3, xI a4, xI a5, w6, xU] [r] N Q))) :
    Ru (d + 1) kNodes_othersThan 32 [xO 3 a0, xO 3 a1, xI a2, xI a3, xI a4, xI a5, w6, xU] [xI s0] M Q := sx_ok cNodes_othersThan 14 [10, 23, 32, 43, 60, 63, 66] rfl h
theorem vNodes_othersThan_43 {d : Nat} {M : xM} {Q : xQ} {a0 a1 a2 a3 a4 a5 s0 : Int} {w6 : xV}
    (h : (¬ s0 = 0 → Ru (d + 1) kNodes_othersThan 63 [xO 3 a0, xO 3 a1, xI a2, xI a3, xI a4, xI a5, xL s0, xU] [] M Q) ∧ (¬ (¬ s0 = 0) → Ru d kNodes_isSame 0 [xO 3 a0, xI a3, xO 3 a1, xI a4, xU, xU, xU, xU] [] M (fun r N => Ru (d + 1) kNodes_othersThan 60 [xO 3 a0, xO 3 a1, xI a2, xI a3, xI a4, xI a5, xL s0, xU] [r] N Q))) :
    Ru (d + 1) kNodes_othersThan 43 [xO 3 a0, xO 3 a1, xI a2, xI a3, xI a4, xI a5, w6, xU] [xL s0] M Q := sx_ok cNodes_othersThan 10 [10, 23, 32, 43, 60, 63, 66] rfl h
theorem vNodes_othersThan_60 {d : Nat} {M : xM} {Q : xQ} {a0 a1 a2 a3 a4 a5 a6 s0 : Int}
    (h : (¬ s0 = 0 → Ru (d + 1) kNodes_othersThan 66 [xO 3 a0, xO 3 a1, xI a2, xI a3, xI a4, xI a5, xL a6, xU] [] M Q) ∧ (¬ (¬ s0 = 0) → Ru (d + 1) kNodes_othersThan 63 [xO 3 a0, xO 3 a1, xI a2, xI a3, xI a4, xI a5, xL a6, xU] [] M Q)) :
    Ru (d + 1) kNodes_othersThan 60 [xO 3 a0, xO 3 a1, xI a2, xI a3, xI a4, xI a5, xL a6, xU] [xI s0] M Q := sx_ok cNodes_othersThan 2 [10, 23, 32, 43, 60, 63, 66] rfl h
theorem vNodes_othersThan_63 {d : Nat} {M : xM} {Q : xQ} {a0 a1 a2 a3 a4 a5 a6 : Int}
    (h : Ru (d + 1) kNodes_othersThan 66 [xO 3 a0, xO 3 a1, xI (z32 (a2 + 1)), xI a3, xI a4, xI a5, xL a6, xU] [] M Q) :
    Ru (d + 1) kNodes_othersThan 63 [xO 3 a0, xO 3 a1, xI a2, xI a3, xI a4, xI a5, xL a6, xU] [] M Q := sx_ok cNodes_othersThan 2 [10, 23, 32, 43, 60, 63, 66] rfl h
theorem vNodes_othersThan_66 {d : Nat} {M : xM} {Q : xQ} {a0 a1 a2 a3 a4 a5 a6 : Int}
    (h : (0 < a6 → (a6 < 0 → Ru (d + 1) kNodes_othersThan 10 [xO 3 a0, xO 3 a1, xI a2, xI (z32 (a3 + 0)), xI (z32 (a4 + 0)), xI (z32 (a5 + 1)), xL a6, xU] [] M Q) ∧ (¬ (a6 < 0) → Ru (d + 1) kNodes_othersThan 10 [xO 3 a0, xO 3 a1, xI a2, xI (z32 (a3 + 0)), xI (z32 (a4 + 1)), xI (z32 (a5 + 1)), xL a6, xU] [] M Q)) ∧ (¬ (0 < a6) → (a6 < 0 → Ru (d + 1) kNodes_othersThan 10 [xO 3 a0, xO 3 a1, xI a2, xI (z32 (a3 + 1)), xI (z32 (a4 + 0)), xI (z32 (a5 + 1)), xL a6, xU] [] M Q) ∧ (¬ (a6 < 0) → Ru (d + 1) kNodes_othersThan 10 [xO 3 a0, xO 3 a1, xI a2, xI (z32 (a3 + 1)), xI (z32 (a4 + 1)), xI (z32 (a5 + 1)), xL a6, xU] [] M Q))) :
    Ru (d + 1) kNodes_othersThan 66 [xO 3 a0, xO 3 a1, xI a2, xI a3, xI a4, xI a5, xL a6, xU] [] M Q := sx_ok cNodes_othersThan 19 [10, 23, 32, 43, 60, 63, 66] rfl h
theorem vNodes_orderOf_0 {d : Nat} {M : xM} {Q : xQ} {a0 a1 a2 a3 : Int}
    (h : (0 ≤ a1 ∧ a1 < 901) ∧ ((0 ≤ a3 ∧ a3 < 901) ∧ (((z32 ((M (a0 + 2) a1) - (M (a2 + 2) a3))) = 0 → (0 ≤ a1 ∧ a1 < 901) ∧ ((0 ≤ a3 ∧ a3 < 901) ∧ (Q (xL (z64 ((M (a0 + 1) a1) - (M (a2 + 1) a3)))) M))) ∧ (¬ ((z32 ((M (a0 + 2) a1) - (M (a2 + 2) a3))) = 0) → Q (xL (z32 ((M (a0 + 2) a1) - (M (a2 + 2) a3)))) M)))) :
    Ru d kNodes_orderOf 0 [xO 3 a0, xI a1, xO 3 a2, xI a3, xU] [] M Q := sx_ok cNodes_orderOf 23 [] rfl h
theorem vPieces_cut_0 {d : Nat} {M : xM} {Q : xQ} {a0 a1 a3 : Int}
    (h : Ru (d + 1) kPieces_cut 8 [xO 4 a0, xL a1, xU, xL a3, xU, xL a1, xU, xU] [] (up M a0 0 0) Q) :
    Ru (d + 1) kPieces_cut 0 [xO 4 a0, xL a1, xU, xL a3, xU, xU, xU, xU] [] M Q := sx_ok cPieces_cut 6 [8, 30, 71] rfl h
theorem vPieces_cut_8 {d : Nat} {M : xM} {Q : xQ} {a0 a1 a3 a5 : Int} {w7 : xV}
    (h : (a3 < a5 → Q xU M) ∧ (¬ (a3 < a5) → (64 ≤ (M a0 0) → Q xU M) ∧ (¬ (64 ≤ (M a0 0)) → Ru d kPieces_shortestAt 0 [xL a5, xU, xL a3, xU, xU] [] M (fun r N => Ru (d + 1) kPieces_cut 30 [xO 4 a0, xL a1, xU, xL a3, xU, xL a5, xU, w7] [r] N Q)))) :
    Ru (d + 1) kPieces_cut 8 [xO 4 a0, xL a1, xU, xL a3, xU, xL a5, xU, w7] [] M Q := sx_ok cPieces_cut 11 [8, 30, 71] rfl h
theorem vPieces_cut_30 {d : Nat} {M : xM} {Q : xQ} {a0 a1 a3 a5 s0 : Int} {w7 : xV}
    (h : (0 ≤ (M a0 0) ∧ (M a0 0) < 64) ∧ ((0 ≤ ((up M (a0 + 1) (M a0 0) a5) a0 0) ∧ ((up M (a0 + 1) (M a0 0) a5) a0 0) < 64) ∧ (Ru d kRS_widthOf 0 [xI s0] [] (up (up (up M (a0 + 1) (M a0 0) a5) (a0 + 2) ((up M (a0 + 1) (M a0 0) a5) a0 0) s0) a0 0 (z32 (((up (up M (a0 + 1) (M a0 0) a5) (a0 + 2) ((up M (a0 + 1) (M a0 0) a5) a0 0) s0) a0 0) + 1))) (fun r N => Ru (d + 1) kPieces_cut 71 [xO 4 a0, xL a1, xU, xL a3, xU, xL a5, xU, xI s0] [r, xL a5] N Q)))) :
    Ru (d + 1) kPieces_cut 30 [xO 4 a0, xL a1, xU, xL a3, xU, xL a5, xU, w7] [xI s0] M Q := sx_ok cPieces_cut 23 [8, 30, 71] rfl h
theorem vPieces_cut_71 {d : Nat} {M : xM} {Q : xQ} {a0 a1 a3 a5 a7 s0 s1 : Int}
    (h : Ru (d + 1) kPieces_cut 8 [xO 4 a0, xL a1, xU, xL a3, xU, xL (z64 (s1 + s0)), xU, xI a7] [] M Q) :
    Ru (d + 1) kPieces_cut 71 [xO 4 a0, xL a1, xU, xL a3, xU, xL a5, xU, xI a7] [xL s0, xL s1] M Q := sx_ok cPieces_cut 4 [8, 30, 71] rfl h
theorem vPieces_shortestAt_0 {d : Nat} {M : xM} {Q : xQ} {a0 a2 : Int}
    (h : Ru (d + 1) kPieces_shortestAt 3 [xL a0, xU, xL a2, xU, xI 0] [] M Q) :
    Ru (d + 1) kPieces_shortestAt 0 [xL a0, xU, xL a2, xU, xU] [] M Q := sx_ok cPieces_shortestAt 3 [3, 16, 30] rfl h
theorem vPieces_shortestAt_3 {d : Nat} {M : xM} {Q : xQ} {a0 a2 a4 : Int}
    (h : (32 ≤ a4 → Q (xI a4) M) ∧ (¬ (32 ≤ a4) → Ru d kRS_widthOf 0 [xI a4] [] M (fun r N => Ru (d + 1) kPieces_shortestAt 16 [xL a0, xU, xL a2, xU, xI a4] [r, xL a0] N Q))) :
    Ru (d + 1) kPieces_shortestAt 3 [xL a0, xU, xL a2, xU, xI a4] [] M Q := sx_ok cPieces_shortestAt 7 [3, 16, 30] rfl h
theorem vPieces_shortestAt_16 {d : Nat} {M : xM} {Q : xQ} {a0 a2 a4 s0 s1 : Int}
    (h : (¬ (land s1 (z64 (s0 - 1))) = 0 → Ru (d + 1) kPieces_shortestAt 3 [xL a0, xU, xL a2, xU, xI (z32 (a4 + 1))] [] M Q) ∧ (¬ (¬ (land s1 (z64 (s0 - 1))) = 0) → Ru d kRS_widthOf 0 [xI a4] [] M (fun r N => Ru (d + 1) kPieces_shortestAt 30 [xL a0, xU, xL a2, xU, xI a4] [r, xL a0] N Q))) :
    Ru (d + 1) kPieces_shortestAt 16 [xL a0, xU, xL a2, xU, xI a4] [xL s0, xL s1] M Q := sx_ok cPieces_shortestAt 9 [3, 16, 30] rfl h
theorem vPieces_shortestAt_30 {d : Nat} {M : xM} {Q : xQ} {a0 a2 a4 s0 s1 : Int}
    (h : ((z64 ((z64 (s1 + s0)) - 1)) ≤ a2 → Q (xI a4) M) ∧ (¬ ((z64 ((z64 (s1 + s0)) - 1)) ≤ a2) → Ru (d + 1) kPieces_shortestAt 3 [xL a0, xU, xL a2, xU, xI (z32 (a4 + 1))] [] M Q)) :
    Ru (d + 1) kPieces_shortestAt 30 [xL a0, xU, xL a2, xU, xI a4] [xL s0, xL s1] M Q := sx_ok cPieces_shortestAt 8 [3, 16, 30] rfl h
theorem vPieces_tellOf_0 {d : Nat} {M : xM} {Q : xQ} {a0 a1 a2 : Int}
    (h : (a1 < 0 → Q (xL (-2)) M) ∧ (¬ (a1 < 0) → ((M a0 0) ≤ a1 → Q (xL (-2)) M) ∧ (¬ ((M a0 0) ≤ a1) → (64 ≤ a1 → Q (xL (-2)) M) ∧ (¬ (64 ≤ a1) → (a2 = 0 → Ru d kPieces_tellOf 31 [xO 4 a0, xI a1, xI a2] [] M Q) ∧ (¬ (a2 = 0) → (a2 = 1 → Ru d kPieces_tellOf 31 [xO 4 a0, xI a1, xI a2] [] M Q) ∧ (¬ (a2 = 1) → Q (xL (-2)) M)))))) :
    Ru d kPieces_tellOf 0 [xO 4 a0, xI a1, xI a2] [] M Q := sx_ok cPieces_tellOf 17 [31] rfl h
theorem vPieces_tellOf_31 {d : Nat} {M : xM} {Q : xQ} {a0 a1 a2 : Int}
    (h : (¬ a2 = 0 → (0 ≤ a1 ∧ a1 < 64) ∧ (Q (xL (M (a0 + 1) a1)) M)) ∧ (¬ (¬ a2 = 0) → (0 ≤ a1 ∧ a1 < 64) ∧ (Q (xL (M (a0 + 2) a1)) M))) :
    Ru d kPieces_tellOf 31 [xO 4 a0, xI a1, xI a2] [] M Q := sx_ok cPieces_tellOf 10 [31] rfl h
theorem vSpans_survey_0 {d : Nat} {M : xM} {Q : xQ} {a0 a1 : Int}
    (h : Ru (d + 1) kSpans_survey 17 [xO 5 a0, xO 6 a1, xI 0] [] (up (up (up M a0 0 0) a0 8 0) a0 9 0) Q) :
    Ru (d + 1) kSpans_survey 0 [xO 5 a0, xO 6 a1, xU] [] M Q := sx_ok cSpans_survey 12 [17, 49, 58, 78, 121, 130] rfl h
theorem vSpans_survey_17 {d : Nat} {M : xM} {Q : xQ} {a0 a1 a2 : Int}
    (h : ((M a1 0) ≤ a2 → Ru d kSpans_closeAhead 0 [xO 5 a0, xL 4294967296, xU, xO 6 a1, xU, xU, xU] [] M (fun r N => Ru (d + 1) kSpans_survey 121 [xO 5 a0, xO 6 a1, xI a2] [] N Q)) ∧ (¬ ((M a1 0) ≤ a2) → (60 ≤ a2 → Ru d kSpans_closeAhead 0 [xO 5 a0, xL 4294967296, xU, xO 6 a1, xU, xU, xU] [] M (fun r N => Ru (d + 1) kSpans_survey 121 [xO 5 a0, xO 6 a1, xI a2] [] N Q)) ∧ (¬ (60 ≤ a2) → (0 ≤ a2 ∧ a2 < 60) ∧ ((0 ≤ a2 ∧ a2 < 60) ∧ (Ru d kSpans_closeAhead 0 [xO 5 a0, xL ((up M (a0 + 5) a2 0) (a1 + 1) a2), xU, xO 6 a1, xU, xU, xU] [] (up M (a0 + 5) a2 0) (fun r N => Ru (d + 1) kSpans_survey 49 [xO 5 a0, xO 6 a1, xI a2] [] N Q)))))) :
    Ru (d + 1) kSpans_survey 17 [xO 5 a0, xO 6 a1, xI a2] [] M Q := sx_ok cSpans_survey 20 [17, 49, 58, 78, 121, 130] rfl h
theorem vSpans_survey_49 {d : Nat} {M : xM} {Q : xQ} {a0 a1 a2 : Int}
    (h : Ru d kSpans_innermost 0 [xO 5 a0] [] M (fun r N => Ru (d + 1) kSpans_survey 58 [xO 5 a0, xO 6 a1, xI a2] [r, xI a2, xAI 60 (a0 + 6)] N Q)) :
    Ru (d + 1) kSpans_survey 49 [xO 5 a0, xO 6 a1, xI a2] [] M Q := sx_ok cSpans_survey 6 [17, 49, 58, 78, 121, 130] rfl h
theorem vSpans_survey_58 {d : Nat} {M : xM} {Q : xQ} {a0 a1 a2 s0 s1 s2 : Int}
    (h : (0 ≤ s1 ∧ s1 < 60) ∧ ((0 ≤ a2 ∧ a2 < 60) ∧ ((0 ≤ a2 ∧ a2 < 60) ∧ (Ru d kSpans_emit 0 [xO 5 a0, xI ((up M s2 s1 s0) (a0 + 6) a2), xL (z64 (((up M s2 s1 s0) (a1 + 1) a2) - 1)), xU, xO 6 a1, xU, xU] [] (up M s2 s1 s0) (fun r N => Ru (d + 1) kSpans_survey 78 [xO 5 a0, xO 6 a1, xI a2] [] N Q))))) :
    Ru (d + 1) kSpans_survey 58 [xO 5 a0, xO 6 a1, xI a2] [xI s0, xI s1, xAI 60 s2] M Q := sx_ok cSpans_survey 15 [17, 49, 58, 78, 121, 130] rfl h
theorem vSpans_survey_78 {d : Nat} {M : xM} {Q : xQ} {a0 a1 a2 : Int}
    (h : (32 < (M a0 8) → Ru (d + 1) kSpans_survey 17 [xO 5 a0, xO 6 a1, xI (z32 (a2 + 1))] [] M Q) ∧ (¬ (32 < (M a0 8)) → (0 ≤ (M a0 8) ∧ (M a0 8) < 33) ∧ (Ru (d + 1) kSpans_survey 17 [xO 5 a0, xO 6 a1, xI (z32 (a2 + 1))] [] (up (up M (a0 + 7) (M a0 8) a2) a0 8 (z32 (((up M (a0 + 7) (M a0 8) a2) a0 8) + 1))) Q))) :
    Ru (d + 1) kSpans_survey 78 [xO 5 a0, xO 6 a1, xI a2] [] M Q := sx_ok cSpans_survey 19 [17, 49, 58, 78, 121, 130] rfl h
theorem vSpans_survey_121 {d : Nat} {M : xM} {Q : xQ} {a0 a1 a2 : Int}
    (h : Ru d kSpans_emit 0 [xO 5 a0, xI (-1), xL 4294967295, xU, xO 6 a1, xU, xU] [] M (fun r N => Ru (d + 1) kSpans_survey 130 [xO 5 a0, xO 6 a1, xI a2] [] N Q)) :
    Ru (d + 1) kSpans_survey 121 [xO 5 a0, xO 6 a1, xI a2] [] M Q := sx_ok cSpans_survey 6 [17, 49, 58, 78, 121, 130] rfl h
theorem vSpans_survey_130 {d : Nat} {M : xM} {Q : xQ} {a0 a1 a2 : Int}
    (h : Q xU M) :
    Ru (d + 1) kSpans_survey 130 [xO 5 a0, xO 6 a1, xI a2] [] M Q := sx_ok cSpans_survey 2 [17, 49, 58, 78, 121, 130] rfl h
theorem vSpans_innermost_0 {d : Nat} {M : xM} {Q : xQ} {a0 : Int}
    (h : ((M a0 8) ≤ 0 → Q (xI (-1)) M) ∧ (¬ ((M a0 8) ≤ 0) → (33 < (M a0 8) → Q (xI (-1)) M) ∧ (¬ (33 < (M a0 8)) → (0 ≤ (z32 ((M a0 8) - 1)) ∧ (z32 ((M a0 8) - 1)) < 33) ∧ (Q (xI (M (a0 + 7) (z32 ((M a0 8) - 1)))) M)))) :
    Ru d kSpans_innermost 0 [xO 5 a0] [] M Q := sx_ok cSpans_innermost 17 [] rfl h
theorem vSpans_closeAhead_0 {d : Nat} {M : xM} {Q : xQ} {a0 a1 a3 : Int} {w4 w5 : xV}
    (h : ((M a0 8) ≤ 0 → Q xU M) ∧ (¬ ((M a0 8) ≤ 0) → Ru d kSpans_innermost 0 [xO 5 a0] [] M (fun r N => Ru (d + 1) kSpans_closeAhead 11 [xO 5 a0, xL a1, xU, xO 6 a3, w4, w5, xU] [r] N Q))) :
    Ru (d + 1) kSpans_closeAhead 0 [xO 5 a0, xL a1, xU, xO 6 a3, w4, w5, xU] [] M Q := sx_ok cSpans_closeAhead 6 [0, 11, 43, 65] rfl h
theorem vSpans_closeAhead_11 {d : Nat} {M : xM} {Q : xQ} {a0 a1 a3 s0 : Int} {w4 w5 : xV}
    (h : (s0 < 0 → Q xU M) ∧ (¬ (s0 < 0) → (s0 < 60 → (0 ≤ s0 ∧ s0 < 60) ∧ ((0 ≤ s0 ∧ s0 < 60) ∧ (Ru d kRS_widthOf 0 [xI (M (a3 + 2) s0)] [] M (fun r N => Ru (d + 1) kSpans_closeAhead 43 [xO 5 a0, xL a1, xU, xO 6 a3, xI s0, w5, xU] [r, xL (M (a3 + 1) s0)] N Q)))) ∧ (¬ (s0 < 60) → Q xU M))) :
    Ru (d + 1) kSpans_closeAhead 11 [xO 5 a0, xL a1, xU, xO 6 a3, w4, w5, xU] [xI s0] M Q := sx_ok cSpans_closeAhead 16 [0, 11, 43, 65] rfl h
theorem vSpans_closeAhead_43 {d : Nat} {M : xM} {Q : xQ} {a0 a1 a3 a4 s0 s1 : Int} {w5 : xV}
    (h : ((z64 ((z64 (s1 + s0)) - 1)) < a1 → Ru d kSpans_emit 0 [xO 5 a0, xI a4, xL (z64 ((z64 (s1 + s0)) - 1)), xU, xO 6 a3, xU, xU] [] M (fun r N => Ru (d + 1) kSpans_closeAhead 65 [xO 5 a0, xL a1, xU, xO 6 a3, xI a4, xL (z64 ((z64 (s1 + s0)) - 1)), xU] [] N Q)) ∧ (¬ ((z64 ((z64 (s1 + s0)) - 1)) < a1) → Q xU M)) :
    Ru (d + 1) kSpans_closeAhead 43 [xO 5 a0, xL a1, xU, xO 6 a3, xI a4, w5, xU] [xL s0, xL s1] M Q := sx_ok cSpans_closeAhead 13 [0, 11, 43, 65] rfl h
theorem vSpans_closeAhead_65 {d : Nat} {M : xM} {Q : xQ} {a0 a1 a3 a4 a5 : Int}
    (h : Ru (d + 1) kSpans_closeAhead 0 [xO 5 a0, xL a1, xU, xO 6 a3, xI a4, xL a5, xU] [] (up M a0 8 (z32 ((M a0 8) - 1))) Q) :
    Ru (d + 1) kSpans_closeAhead 65 [xO 5 a0, xL a1, xU, xO 6 a3, xI a4, xL a5, xU] [] M Q := sx_ok cSpans_closeAhead 8 [0, 11, 43, 65] rfl h
theorem vSpans_emit_0 {d : Nat} {M : xM} {Q : xQ} {a0 a1 a2 a4 : Int}
    (h : ((M a0 9) ≤ a2 → (a1 < 0 → Ru d kSpans_emit 49 [xO 5 a0, xI a1, xL a2, xU, xO 6 a4, xI (-1), xU] [] M Q) ∧ (¬ (a1 < 0) → (60 ≤ a1 → Ru d kSpans_emit 49 [xO 5 a0, xI a1, xL a2, xU, xO 6 a4, xI (-1), xU] [] M Q) ∧ (¬ (60 ≤ a1) → (0 ≤ a1 ∧ a1 < 60) ∧ ((0 ≤ a1 ∧ a1 < 60) ∧ ((0 ≤ a1 ∧ a1 < 60) ∧ (Ru d kSpans_emit 49 [xO 5 a0, xI a1, xL a2, xU, xO 6 a4, xI ((up M (a0 + 5) a1 (z64 ((M (a0 + 5) a1) + (z64 ((z64 (a2 - (M a0 9))) + 1))))) (a4 + 3) a1), xU] [] (up M (a0 + 5) a1 (z64 ((M (a0 + 5) a1) + (z64 ((z64 (a2 - (M a0 9))) + 1))))) Q)))))) ∧ (¬ ((M a0 9) ≤ a2) → Q xU M)) :
    Ru d kSpans_emit 0 [xO 5 a0, xI a1, xL a2, xU, xO 6 a4, xU, xU] [] M Q := sx_ok cSpans_emit 30 [49, 72, 122] rfl h
set_option maxRecDepth 20000 in
theorem vSpans_emit_49 {d : Nat} {M : xM} {Q : xQ} {a0 a1 a2 a4 a5 : Int}
    (h : (a5 < 0 → Ru d kSpans_emit 72 [xO 5 a0, xI a1, xL a2, xU, xO 6 a4, xI a5, xU] [] M Q) ∧ (¬ (a5 < 0) → (60 ≤ a5 → Ru d kSpans_emit 72 [xO 5 a0, xI a1, xL a2, xU, xO 6 a4, xI a5, xU] [] M Q) ∧ (¬ (60 ≤ a5) → (0 ≤ a5 ∧ a5 < 60) ∧ (((M a0 0) ≤ 0 → Ru d kSpans_emit 122 [xO 5 a0, xI a1, xL a2, xU, xO 6 a4, xI a5, xI (M (a4 + 4) a5)] [] M Q) ∧ (¬ ((M a0 0) ≤ 0) → (121 < (M a0 0) → Ru d kSpans_emit 122 [xO 5 a0, xI a1, xL a2, xU, xO 6 a4, xI a5, xI (M (a4 + 4) a5)] [] M Q) ∧ (¬ (121 < (M a0 0)) → (0 ≤ (z32 ((M a0 0) - 1)) ∧ (z32 ((M a0 0) - 1)) < 121) ∧ ((¬ (M (a0 + 3) (z32 ((M a0 0) - 1))) = a5 → Ru d kSpans_emit 122 [xO 5 a0, xI a1, xL a2, xU, xO 6 a4, xI a5, xI (M (a4 + 4) a5)] [] M Q) ∧ (¬ (¬ (M (a0 + 3) (z32 ((M a0 0) - 1))) = a5) → (0 ≤ (z32 ((M a0 0) - 1)) ∧ (z32 ((M a0 0) - 1)) < 121) ∧ (Q xU (up (up M (a0 + 2) (z32 ((M a0 0) - 1)) a2) a0 9 (z64 (a2 + 1)))))))))))) :
    Ru d kSpans_emit 49 [xO 5 a0, xI a1, xL a2, xU, xO 6 a4, xI a5, xU] [] M Q := sx_ok cSpans_emit 43 [49, 72, 122] rfl h
theorem vSpans_emit_72 {d : Nat} {M : xM} {Q : xQ} {a0 a1 a2 a4 a5 : Int}
    (h : ((M a0 0) ≤ 0 → Ru d kSpans_emit 122 [xO 5 a0, xI a1, xL a2, xU, xO 6 a4, xI a5, xI (-1)] [] M Q) ∧ (¬ ((M a0 0) ≤ 0) → (121 < (M a0 0) → Ru d kSpans_emit 122 [xO 5 a0, xI a1, xL a2, xU, xO 6 a4, xI a5, xI (-1)] [] M Q) ∧ (¬ (121 < (M a0 0)) → (0 ≤ (z32 ((M a0 0) - 1)) ∧ (z32 ((M a0 0) - 1)) < 121) ∧ ((¬ (M (a0 + 3) (z32 ((M a0 0) - 1))) = a5 → Ru d kSpans_emit 122 [xO 5 a0, xI a1, xL a2, xU, xO 6 a4, xI a5, xI (-1)] [] M Q) ∧ (¬ (¬ (M (a0 + 3) (z32 ((M a0 0) - 1))) = a5) → (0 ≤ (z32 ((M a0 0) - 1)) ∧ (z32 ((M a0 0) - 1)) < 121) ∧ (Q xU (up (up M (a0 + 2) (z32 ((M a0 0) - 1)) a2) a0 9 (z64 (a2 + 1))))))))) :
    Ru d kSpans_emit 72 [xO 5 a0, xI a1, xL a2, xU, xO 6 a4, xI a5, xU] [] M Q := sx_ok cSpans_emit 34 [49, 72, 122] rfl h
set_option maxRecDepth 20000 in
theorem vSpans_emit_122 {d : Nat} {M : xM} {Q : xQ} {a0 a1 a2 a4 a5 a6 : Int}
    (h : (121 ≤ (M a0 0) → Q xU (up M a0 9 (z64 (a2 + 1)))) ∧ (¬ (121 ≤ (M a0 0)) → (0 ≤ (M a0 0) ∧ (M a0 0) < 121) ∧ ((0 ≤ ((up M (a0 + 1) (M a0 0) (M a0 9)) a0 0) ∧ ((up M (a0 + 1) (M a0 0) (M a0 9)) a0 0) < 121) ∧ ((0 ≤ ((up (up M (a0 + 1) (M a0 0) (M a0 9)) (a0 + 2) ((up M (a0 + 1) (M a0 0) (M a0 9)) a0 0) a2) a0 0) ∧ ((up (up M (a0 + 1) (M a0 0) (M a0 9)) (a0 + 2) ((up M (a0 + 1) (M a0 0) (M a0 9)) a0 0) a2) a0 0) < 121) ∧ ((0 ≤ ((up (up (up M (a0 + 1) (M a0 0) (M a0 9)) (a0 + 2) ((up M (a0 + 1) (M a0 0) (M a0 9)) a0 0) a2) (a0 + 3) ((up (up M (a0 + 1) (M a0 0) (M a0 9)) (a0 + 2) ((up M (a0 + 1) (M a0 0) (M a0 9)) a0 0) a2) a0 0) a5) a0 0) ∧ ((up (up (up M (a0 + 1) (M a0 0) (M a0 9)) (a0 + 2) ((up M (a0 + 1) (M a0 0) (M a0 9)) a0 0) a2) (a0 + 3) ((up (up M (a0 + 1) (M a0 0) (M a0 9)) (a0 + 2) ((up M (a0 + 1) (M a0 0) (M a0 9)) a0 0) a2) a0 0) a5) a0 0) < 121) ∧ (Q xU (up (up (up (up (up (up M (a0 + 1) (M a0 0) (M a0 9)) (a0 + 2) ((up M (a0 + 1) (M a0 0) (M a0 9)) a0 0) a2) (a0 + 3) ((up (up M (a0 + 1) (M a0 0) (M a0 9)) (a0 + 2) ((up M (a0 + 1) (M a0 0) (M a0 9)) a0 0) a2) a0 0) a5) (a0 + 4) ((up (up (up M (a0 + 1) (M a0 0) (M a0 9)) (a0 + 2) ((up M (a0 + 1) (M a0 0) (M a0 9)) a0 0) a2) (a0 + 3) ((up (up M (a0 + 1) (M a0 0) (M a0 9)) (a0 + 2) ((up M (a0 + 1) (M a0 0) (M a0 9)) a0 0) a2) a0 0) a5) a0 0) a6) a0 0 (z32 (((up (up (up (up M (a0 + 1) (M a0 0) (M a0 9)) (a0 + 2) ((up M (a0 + 1) (M a0 0) (M a0 9)) a0 0) a2) (a0 + 3) ((up (up M (a0 + 1) (M a0 0) (M a0 9)) (a0 + 2) ((up M (a0 + 1) (M a0 0) (M a0 9)) a0 0) a2) a0 0) a5) (a0 + 4) ((up (up (up M (a0 + 1) (M a0 0) (M a0 9)) (a0 + 2) ((up M (a0 + 1) (M a0 0) (M a0 9)) a0 0) a2) (a0 + 3) ((up (up M (a0 + 1) (M a0 0) (M a0 9)) (a0 + 2) ((up M (a0 + 1) (M a0 0) (M a0 9)) a0 0) a2) a0 0) a5) a0 0) a6) a0 0) + 1))) a0 9 (z64 (a2 + 1))))))))) :
    Ru d kSpans_emit 122 [xO 5 a0, xI a1, xL a2, xU, xO 6 a4, xI a5, xI a6] [] M Q := sx_ok cSpans_emit 42 [49, 72, 122] rfl h
theorem vSpans_spanWith_0 {d : Nat} {M : xM} {Q : xQ} {a0 a1 a3 : Int}
    (h : (0 ≤ a3 → Ru d kSpans_spanWith 11 [xO 5 a0, xL a1, xU, xI a3, xI a3] [] M Q) ∧ (¬ (0 ≤ a3) → Ru d kSpans_spanWith 11 [xO 5 a0, xL a1, xU, xI a3, xI 0] [] M Q)) :
    Ru d kSpans_spanWith 0 [xO 5 a0, xL a1, xU, xI a3, xU] [] M Q := sx_ok cSpans_spanWith 6 [11] rfl h
theorem vSpans_spanWith_11 {d : Nat} {M : xM} {Q : xQ} {a0 a1 a3 a4 : Int}
    (h : ((z32 ((M a0 0) - 1)) ≤ a4 → Q (xI (mn a4 120)) M) ∧ (¬ ((z32 ((M a0 0) - 1)) ≤ a4) → (120 ≤ a4 → Q (xI (mn a4 120)) M) ∧ (¬ (120 ≤ a4) → (0 ≤ a4 ∧ a4 < 121) ∧ ((a1 ≤ (M (a0 + 2) a4) → Q (xI (mn a4 120)) M) ∧ (¬ (a1 ≤ (M (a0 + 2) a4)) → Ru d kSpans_spanWith 11 [xO 5 a0, xL a1, xU, xI a3, xI (z32 (a4 + 1))] [] M Q))))) :
    Ru d kSpans_spanWith 11 [xO 5 a0, xL a1, xU, xI a3, xI a4] [] M Q := sx_ok cSpans_spanWith 20 [11] rfl h
theorem vSpans_idle_0 {d : Nat} {M : xM} {Q : xQ} {a0 a1 : Int}
    (h : Ru d kSpans_idle 4 [xO 5 a0, xI a1, xI 0, xI 0] [] M Q) :
    Ru d kSpans_idle 0 [xO 5 a0, xI a1, xU, xU] [] M Q := sx_ok cSpans_idle 5 [4] rfl h
theorem vSpans_idle_4 {d : Nat} {M : xM} {Q : xQ} {a0 a1 a2 a3 : Int}
    (h : (a1 ≤ a3 → Q (xI a2) M) ∧ (¬ (a1 ≤ a3) → (60 ≤ a3 → Q (xI a2) M) ∧ (¬ (60 ≤ a3) → (0 ≤ a3 ∧ a3 < 60) ∧ ((¬ (M (a0 + 5) a3) = 0 → Ru d kSpans_idle 4 [xO 5 a0, xI a1, xI (z32 (a2 + 0)), xI (z32 (a3 + 1))] [] M Q) ∧ (¬ (¬ (M (a0 + 5) a3) = 0) → Ru d kSpans_idle 4 [xO 5 a0, xI a1, xI (z32 (a2 + 1)), xI (z32 (a3 + 1))] [] M Q))))) :
    Ru d kSpans_idle 4 [xO 5 a0, xI a1, xI a2, xI a3] [] M Q := sx_ok cSpans_idle 20 [4] rfl h
theorem vSpans_addressesWith_0 {d : Nat} {M : xM} {Q : xQ} {a0 a1 : Int}
    (h : Ru d kSpans_addressesWith 5 [xO 5 a0, xI a1, xL 0, xU, xI 0] [] M Q) :
    Ru d kSpans_addressesWith 0 [xO 5 a0, xI a1, xU, xU, xU] [] M Q := sx_ok cSpans_addressesWith 5 [5] rfl h
theorem vSpans_addressesWith_5 {d : Nat} {M : xM} {Q : xQ} {a0 a1 a2 a4 : Int}
    (h : ((M a0 0) ≤ a4 → Q (xL a2) M) ∧ (¬ ((M a0 0) ≤ a4) → (121 ≤ a4 → Q (xL a2) M) ∧ (¬ (121 ≤ a4) → (0 ≤ a4 ∧ a4 < 121) ∧ ((¬ (M (a0 + 3) a4) = a1 → Ru d kSpans_addressesWith 5 [xO 5 a0, xI a1, xL (z64 (a2 + 0)), xU, xI (z32 (a4 + 1))] [] M Q) ∧ (¬ (¬ (M (a0 + 3) a4) = a1) → (0 ≤ a4 ∧ a4 < 121) ∧ ((0 ≤ a4 ∧ a4 < 121) ∧ (Ru d kSpans_addressesWith 5 [xO 5 a0, xI a1, xL (z64 (a2 + (z64 ((z64 ((M (a0 + 2) a4) - (M (a0 + 1) a4))) + 1)))), xU, xI (z32 (a4 + 1))] [] M Q))))))) :
    Ru d kSpans_addressesWith 5 [xO 5 a0, xI a1, xL a2, xU, xI a4] [] M Q := sx_ok cSpans_addressesWith 31 [5] rfl h
theorem vSpans_differing_0 {d : Nat} {M : xM} {Q : xQ} {a0 a1 a2 : Int}
    (h : Ru d kSpans_differing 11 [xO 5 a0, xO 5 a1, xI a2, xL 0, xU, xI 0, xI 0, xI 0, xU, xU, xU, xU, xU] [] M Q) :
    Ru d kSpans_differing 0 [xO 5 a0, xO 5 a1, xI a2, xU, xU, xU, xU, xU, xU, xU, xU, xU, xU] [] M Q := sx_ok cSpans_differing 9 [11, 126] rfl h
set_option maxRecDepth 20000 in
theorem vSpans_differing_11 {d : Nat} {M : xM} {Q : xQ} {a0 a1 a2 a3 a5 a6 a7 : Int} {w8 w10 w12 : xV}
    (h : (242 ≤ a7 → (a2 = 0 → Q (xL a3) M) ∧ (¬ (a2 = 0) → Q (xL (-2)) M)) ∧ (¬ (242 ≤ a7) → ((M a0 0) ≤ a5 → (a2 = 0 → Q (xL a3) M) ∧ (¬ (a2 = 0) → Q (xL (-2)) M)) ∧ (¬ ((M a0 0) ≤ a5) → (121 ≤ a5 → (a2 = 0 → Q (xL a3) M) ∧ (¬ (a2 = 0) → Q (xL (-2)) M)) ∧ (¬ (121 ≤ a5) → ((M a1 0) ≤ a6 → (a2 = 0 → Q (xL a3) M) ∧ (¬ (a2 = 0) → Q (xL (-2)) M)) ∧ (¬ ((M a1 0) ≤ a6) → (a6 < 121 → (0 ≤ a5 ∧ a5 < 121) ∧ ((0 ≤ a6 ∧ a6 < 121) ∧ ((0 ≤ a5 ∧ a5 < 121) ∧ ((0 ≤ a6 ∧ a6 < 121) ∧ ((0 ≤ a5 ∧ a5 < 121) ∧ ((0 ≤ a6 ∧ a6 < 121) ∧ (((M (a0 + 4) a5) = (M (a1 + 4) a6) → Ru d kSpans_differing 126 [xO 5 a0, xO 5 a1, xI a2, xL a3, xU, xI a5, xI a6, xI a7, xL (mx (M (a0 + 1) a5) (M (a1 + 1) a6)), xU, xL (mn (M (a0 + 2) a5) (M (a1 + 2) a6)), xU, w12] [] M Q) ∧ (¬ ((M (a0 + 4) a5) = (M (a1 + 4) a6)) → (a2 = 0 → Ru d kSpans_differing 126 [xO 5 a0, xO 5 a1, xI a2, xL (z64 (a3 + (z64 ((z64 ((mn (M (a0 + 2) a5) (M (a1 + 2) a6)) - (mx (M (a0 + 1) a5) (M (a1 + 1) a6)))) + 1)))), xU, xI a5, xI a6, xI a7, xL (mx (M (a0 + 1) a5) (M (a1 + 1) a6)), xU, xL (mn (M (a0 + 2) a5) (M (a1 + 2) a6)), xU, w12] [] M Q) ∧ (¬ (a2 = 0) → Q (xL (mx (M (a0 + 1) a5) (M (a1 + 1) a6))) M))))))))) ∧ (¬ (a6 < 121) → (a2 = 0 → Q (xL a3) M) ∧ (¬ (a2 = 0) → Q (xL (-2)) M))))))) :
    Ru d kSpans_differing 11 [xO 5 a0, xO 5 a1, xI a2, xL a3, xU, xI a5, xI a6, xI a7, w8, xU, w10, xU, w12] [] M Q := sx_ok cSpans_differing 57 [11, 126] rfl h
theorem vSpans_differing_126 {d : Nat} {M : xM} {Q : xQ} {a0 a1 a2 a3 a5 a6 a7 a8 a10 : Int} {w12 : xV}
    (h : (0 ≤ a6 ∧ a6 < 121) ∧ ((a10 < (M (a1 + 2) a6) → (0 ≤ a5 ∧ a5 < 121) ∧ ((a10 < (M (a0 + 2) a5) → ((0 : Int) = 0 → Ru d kSpans_differing 11 [xO 5 a0, xO 5 a1, xI a2, xL a3, xU, xI (z32 (a5 + 0)), xI (z32 (a6 + 0)), xI (z32 (a7 + 1)), xL a8, xU, xL a10, xU, xI 0] [] M Q) ∧ (¬ ((0 : Int) = 0) → Ru d kSpans_differing 11 [xO 5 a0, xO 5 a1, xI a2, xL a3, xU, xI (z32 (a5 + 0)), xI (z32 (a6 + 1)), xI (z32 (a7 + 1)), xL a8, xU, xL a10, xU, xI 0] [] M Q)) ∧ (¬ (a10 < (M (a0 + 2) a5)) → ((0 : Int) = 0 → Ru d kSpans_differing 11 [xO 5 a0, xO 5 a1, xI a2, xL a3, xU, xI (z32 (a5 + 1)), xI (z32 (a6 + 0)), xI (z32 (a7 + 1)), xL a8, xU, xL a10, xU, xI 0] [] M Q) ∧ (¬ ((0 : Int) = 0) → Ru d kSpans_differing 11 [xO 5 a0, xO 5 a1, xI a2, xL a3, xU, xI (z32 (a5 + 1)), xI (z32 (a6 + 1)), xI (z32 (a7 + 1)), xL a8, xU, xL a10, xU, xI 0] [] M Q)))) ∧ (¬ (a10 < (M (a1 + 2) a6)) → (0 ≤ a5 ∧ a5 < 121) ∧ ((a10 < (M (a0 + 2) a5) → ((1 : Int) = 0 → Ru d kSpans_differing 11 [xO 5 a0, xO 5 a1, xI a2, xL a3, xU, xI (z32 (a5 + 0)), xI (z32 (a6 + 0)), xI (z32 (a7 + 1)), xL a8, xU, xL a10, xU, xI 1] [] M Q) ∧ (¬ ((1 : Int) = 0) → Ru d kSpans_differing 11 [xO 5 a0, xO 5 a1, xI a2, xL a3, xU, xI (z32 (a5 + 0)), xI (z32 (a6 + 1)), xI (z32 (a7 + 1)), xL a8, xU, xL a10, xU, xI 1] [] M Q)) ∧ (¬ (a10 < (M (a0 + 2) a5)) → ((1 : Int) = 0 → Ru d kSpans_differing 11 [xO 5 a0, xO 5 a1, xI a2, xL a3, xU, xI (z32 (a5 + 1)), xI (z32 (a6 + 0)), xI (z32 (a7 + 1)), xL a8, xU, xL a10, xU, xI 1] [] M Q) ∧ (¬ ((1 : Int) = 0) → Ru d kSpans_differing 11 [xO 5 a0, xO 5 a1, xI a2, xL a3, xU, xI (z32 (a5 + 1)), xI (z32 (a6 + 1)), xI (z32 (a7 + 1)), xL a8, xU, xL a10, xU, xI 1] [] M Q)))))) :
    Ru d kSpans_differing 126 [xO 5 a0, xO 5 a1, xI a2, xL a3, xU, xI a5, xI a6, xI a7, xL a8, xU, xL a10, xU, w12] [] M Q := sx_ok cSpans_differing 30 [11, 126] rfl h
theorem vTable_takeFirstStrides_0 {d : Nat} {M : xM} {Q : xQ} {a0 : Int}
    (h : Ru d kTable_takeFirstStrides 8 [xO 6 a0, xI 0] [] (up M a0 6 8) Q) :
    Ru d kTable_takeFirstStrides 0 [xO 6 a0, xU] [] M Q := sx_ok cTable_takeFirstStrides 6 [8] rfl h
theorem vTable_takeFirstStrides_8 {d : Nat} {M : xM} {Q : xQ} {a0 a1 : Int}
    (h : (8 ≤ a1 → Q xU M) ∧ (¬ (8 ≤ a1) → (0 ≤ a1 ∧ a1 < 16) ∧ (Ru d kTable_takeFirstStrides 8 [xO 6 a0, xI (z32 (a1 + 1))] [] (up M (a0 + 6) a1 4) Q))) :
    Ru d kTable_takeFirstStrides 8 [xO 6 a0, xI a1] [] M Q := sx_ok cTable_takeFirstStrides 11 [8] rfl h
theorem vTable_clear_0 {d : Nat} {M : xM} {Q : xQ} {a0 : Int}
    (h : Ru (d + 1) kTable_clear 7 [xO 6 a0, xI 0] [] (up M a0 0 0) Q) :
    Ru (d + 1) kTable_clear 0 [xO 6 a0, xU] [] M Q := sx_ok cTable_clear 6 [7, 30] rfl h
theorem vTable_clear_7 {d : Nat} {M : xM} {Q : xQ} {a0 a1 : Int}
    (h : (60 ≤ a1 → Ru d kTable_takeFirstStrides 0 [xO 6 a0, xU] [] M (fun r N => Ru (d + 1) kTable_clear 30 [xO 6 a0, xI a1] [] N Q)) ∧ (¬ (60 ≤ a1) → (0 ≤ a1 ∧ a1 < 60) ∧ (Ru (d + 1) kTable_clear 7 [xO 6 a0, xI (z32 (a1 + 1))] [] (up M (a0 + 5) a1 0) Q))) :
    Ru (d + 1) kTable_clear 7 [xO 6 a0, xI a1] [] M Q := sx_ok cTable_clear 11 [7, 30] rfl h
theorem vTable_clear_30 {d : Nat} {M : xM} {Q : xQ} {a0 a1 : Int}
    (h : Q xU M) :
    Ru (d + 1) kTable_clear 30 [xO 6 a0, xI a1] [] M Q := sx_ok cTable_clear 2 [7, 30] rfl h
theorem vTable_copyFrom_0 {d : Nat} {M : xM} {Q : xQ} {a0 a1 : Int}
    (h : Ru (d + 1) kTable_copyFrom 10 [xO 6 a0, xO 6 a1, xI 0] [] (up M a0 0 (M a1 0)) Q) :
    Ru (d + 1) kTable_copyFrom 0 [xO 6 a0, xO 6 a1, xU] [] M Q := sx_ok cTable_copyFrom 7 [10, 87] rfl h
set_option maxRecDepth 20000 in
theorem vTable_copyFrom_10 {d : Nat} {M : xM} {Q : xQ} {a0 a1 a2 : Int}
    (h : (60 ≤ a2 → Ru d kTable_copyStrides 0 [xO 6 a0, xO 6 a1, xU] [] M (fun r N => Ru (d + 1) kTable_copyFrom 87 [xO 6 a0, xO 6 a1, xI a2] [] N Q)) ∧ (¬ (60 ≤ a2) → (0 ≤ a2 ∧ a2 < 60) ∧ ((0 ≤ a2 ∧ a2 < 60) ∧ ((0 ≤ a2 ∧ a2 < 60) ∧ ((0 ≤ a2 ∧ a2 < 60) ∧ ((0 ≤ a2 ∧ a2 < 60) ∧ ((0 ≤ a2 ∧ a2 < 60) ∧ ((0 ≤ a2 ∧ a2 < 60) ∧ ((0 ≤ a2 ∧ a2 < 60) ∧ ((0 ≤ a2 ∧ a2 < 60) ∧ ((0 ≤ a2 ∧ a2 < 60) ∧ (Ru (d + 1) kTable_copyFrom 10 [xO 6 a0, xO 6 a1, xI (z32 (a2 + 1))] [] (up (up (up (up (up M (a0 + 1) a2 (M (a1 + 1) a2)) (a0 + 2) a2 ((up M (a0 + 1) a2 (M (a1 + 1) a2)) (a1 + 2) a2)) (a0 + 3) a2 ((up (up M (a0 + 1) a2 (M (a1 + 1) a2)) (a0 + 2) a2 ((up M (a0 + 1) a2 (M (a1 + 1) a2)) (a1 + 2) a2)) (a1 + 3) a2)) (a0 + 4) a2 ((up (up (up M (a0 + 1) a2 (M (a1 + 1) a2)) (a0 + 2) a2 ((up M (a0 + 1) a2 (M (a1 + 1) a2)) (a1 + 2) a2)) (a0 + 3) a2 ((up (up M (a0 + 1) a2 (M (a1 + 1) a2)) (a0 + 2) a2 ((up M (a0 + 1) a2 (M (a1 + 1) a2)) (a1 + 2) a2)) (a1 + 3) a2)) (a1 + 4) a2)) (a0 + 5) a2 ((up (up (up (up M (a0 + 1) a2 (M (a1 + 1) a2)) (a0 + 2) a2 ((up M (a0 + 1) a2 (M (a1 + 1) a2)) (a1 + 2) a2)) (a0 + 3) a2 ((up (up M (a0 + 1) a2 (M (a1 + 1) a2)) (a0 + 2) a2 ((up M (a0 + 1) a2 (M (a1 + 1) a2)) (a1 + 2) a2)) (a1 + 3) a2)) (a0 + 4) a2 ((up (up (up M (a0 + 1) a2 (M (a1 + 1) a2)) (a0 + 2) a2 ((up M (a0 + 1) a2 (M (a1 + 1) a2)) (a1 + 2) a2)) (a0 + 3) a2 ((up (up M (a0 + 1) a2 (M (a1 + 1) a2)) (a0 + 2) a2 ((up M (a0 + 1) a2 (M (a1 + 1) a2)) (a1 + 2) a2)) (a1 + 3) a2)) (a1 + 4) a2)) (a1 + 5) a2)) Q)))))))))))) :
    Ru (d + 1) kTable_copyFrom 10 [xO 6 a0, xO 6 a1, xI a2] [] M Q := sx_ok cTable_copyFrom 46 [10, 87] rfl h
theorem vTable_copyFrom_87 {d : Nat} {M : xM} {Q : xQ} {a0 a1 a2 : Int}
    (h : Q xU M) :
    Ru (d + 1) kTable_copyFrom 87 [xO 6 a0, xO 6 a1, xI a2] [] M Q := sx_ok cTable_copyFrom 2 [10, 87] rfl h
theorem vTable_copyStrides_0 {d : Nat} {M : xM} {Q : xQ} {a0 a1 : Int}
    (h : Ru d kTable_copyStrides 10 [xO 6 a0, xO 6 a1, xI 0] [] (up M a0 6 (M a1 6)) Q) :
    Ru d kTable_copyStrides 0 [xO 6 a0, xO 6 a1, xU] [] M Q := sx_ok cTable_copyStrides 7 [10] rfl h
theorem vTable_copyStrides_10 {d : Nat} {M : xM} {Q : xQ} {a0 a1 a2 : Int}
    (h : (16 ≤ a2 → Q xU M) ∧ (¬ (16 ≤ a2) → (0 ≤ a2 ∧ a2 < 16) ∧ ((0 ≤ a2 ∧ a2 < 16) ∧ (Ru d kTable_copyStrides 10 [xO 6 a0, xO 6 a1, xI (z32 (a2 + 1))] [] (up M (a0 + 6) a2 (M (a1 + 6) a2)) Q)))) :
    Ru d kTable_copyStrides 10 [xO 6 a0, xO 6 a1, xI a2] [] M Q := sx_ok cTable_copyStrides 14 [10] rfl h
theorem vTable_hasStridesOf_0 {d : Nat} {M : xM} {Q : xQ} {a0 a1 : Int}
    (h : ((M a0 6) = (M a1 6) → Ru d kTable_hasStridesOf 15 [xO 6 a0, xO 6 a1, xI 0] [] M Q) ∧ (¬ ((M a0 6) = (M a1 6)) → Q (xI 0) M)) :
    Ru d kTable_hasStridesOf 0 [xO 6 a0, xO 6 a1, xU] [] M Q := sx_ok cTable_hasStridesOf 8 [15] rfl h
theorem vTable_hasStridesOf_15 {d : Nat} {M : xM} {Q : xQ} {a0 a1 a2 : Int}
    (h : ((M a0 6) ≤ a2 → Q (xI 1) M) ∧ (¬ ((M a0 6) ≤ a2) → (16 ≤ a2 → Q (xI 1) M) ∧ (¬ (16 ≤ a2) → (0 ≤ a2 ∧ a2 < 16) ∧ ((0 ≤ a2 ∧ a2 < 16) ∧ (((M (a0 + 6) a2) = (M (a1 + 6) a2) → Ru d kTable_hasStridesOf 15 [xO 6 a0, xO 6 a1, xI (z32 (a2 + 1))] [] M Q) ∧ (¬ ((M (a0 + 6) a2) = (M (a1 + 6) a2)) → Q (xI 0) M)))))) :
    Ru d kTable_hasStridesOf 15 [xO 6 a0, xO 6 a1, xI a2] [] M Q := sx_ok cTable_hasStridesOf 19 [15] rfl h
theorem vTable_takeStrides_0 {d : Nat} {M : xM} {Q : xQ} {a0 a1 : Int}
    (h : Ru (d + 1) kTable_takeStrides 13 [xO 6 a0, xL a1, xU, xL a1, xU, xI 0, xI 0, xU] [] (up M a0 6 0) Q) :
    Ru (d + 1) kTable_takeStrides 0 [xO 6 a0, xL a1, xU, xU, xU, xU, xU, xU] [] M Q := sx_ok cTable_takeStrides 10 [13, 104] rfl h
theorem vTable_takeStrides_13 {d : Nat} {M : xM} {Q : xQ} {a0 a1 a3 a5 a6 : Int} {w7 : xV}
    (h : (16 ≤ a6 → (¬ a3 = 0 → Q (xI 0) M) ∧ (¬ (¬ a3 = 0) → (a5 = 32 → Ru d kTable_turnStrides 0 [xO 6 a0, xU, xU, xU] [] M (fun r N => Ru (d + 1) kTable_takeStrides 104 [xO 6 a0, xL a1, xU, xL a3, xU, xI a5, xI a6, w7] [] N Q)) ∧ (¬ (a5 = 32) → Q (xI 0) M))) ∧ (¬ (16 ≤ a6) → (a3 ≤ 0 → (¬ a3 = 0 → Q (xI 0) M) ∧ (¬ (¬ a3 = 0) → (a5 = 32 → Ru d kTable_turnStrides 0 [xO 6 a0, xU, xU, xU] [] M (fun r N => Ru (d + 1) kTable_takeStrides 104 [xO 6 a0, xL a1, xU, xL a3, xU, xI a5, xI a6, w7] [] N Q)) ∧ (¬ (a5 = 32) → Q (xI 0) M))) ∧ (¬ (a3 ≤ 0) → ¬ (10 : Int) = 0 ∧ (((z32 (lrem a3 10)) < 2 → Q (xI 0) M) ∧ (¬ ((z32 (lrem a3 10)) < 2) → ((z32 (lrem a3 10)) ≤ 6 → (0 ≤ a6 ∧ a6 < 16) ∧ (¬ (10 : Int) = 0 ∧ (Ru (d + 1) kTable_takeStrides 13 [xO 6 a0, xL a1, xU, xL (ldiv a3 10), xU, xI (z32 (a5 + (z32 (lrem a3 10)))), xI (z32 (a6 + 1)), xI (z32 (lrem a3 10))] [] (up (up M (a0 + 6) a6 (z32 (lrem a3 10))) a0 6 (z32 (a6 + 1))) Q))) ∧ (¬ ((z32 (lrem a3 10)) ≤ 6) → Q (xI 0) M)))))) :
    Ru (d + 1) kTable_takeStrides 13 [xO 6 a0, xL a1, xU, xL a3, xU, xI a5, xI a6, w7] [] M Q := sx_ok cTable_takeStrides 38 [13, 104] rfl h
theorem vTable_takeStrides_104 {d : Nat} {M : xM} {Q : xQ} {a0 a1 a3 a5 a6 : Int} {w7 : xV}
    (h : Q (xI 1) M) :
    Ru (d + 1) kTable_takeStrides 104 [xO 6 a0, xL a1, xU, xL a3, xU, xI a5, xI a6, w7] [] M Q := sx_ok cTable_takeStrides 3 [13, 104] rfl h
theorem vTable_turnStrides_0 {d : Nat} {M : xM} {Q : xQ} {a0 : Int}
    (h : Ru d kTable_turnStrides 9 [xO 6 a0, xI 0, xI (z32 ((M a0 6) - 1)), xU] [] M Q) :
    Ru d kTable_turnStrides 0 [xO 6 a0, xU, xU, xU] [] M Q := sx_ok cTable_turnStrides 8 [9] rfl h
theorem vTable_turnStrides_9 {d : Nat} {M : xM} {Q : xQ} {a0 a1 a2 : Int} {w3 : xV}
    (h : (a2 ≤ a1 → Q xU M) ∧ (¬ (a2 ≤ a1) → (16 ≤ a2 → Q xU M) ∧ (¬ (16 ≤ a2) → (0 ≤ a1 ∧ a1 < 16) ∧ ((0 ≤ a2 ∧ a2 < 16) ∧ ((0 ≤ a1 ∧ a1 < 16) ∧ ((0 ≤ a2 ∧ a2 < 16) ∧ (Ru d kTable_turnStrides 9 [xO 6 a0, xI (z32 (a1 + 1)), xI (z32 (a2 + (-1))), xI (M (a0 + 6) a1)] [] (up (up M (a0 + 6) a1 (M (a0 + 6) a2)) (a0 + 6) a2 (M (a0 + 6) a1)) Q))))))) :
    Ru d kTable_turnStrides 9 [xO 6 a0, xI a1, xI a2, w3] [] M Q := sx_ok cTable_turnStrides 28 [9] rfl h
theorem vTable_placeFor_0 {d : Nat} {M : xM} {Q : xQ} {a0 a1 a3 : Int}
    (h : Ru d kTable_placeFor 3 [xO 6 a0, xL a1, xU, xI a3, xI 0] [] M Q) :
    Ru d kTable_placeFor 0 [xO 6 a0, xL a1, xU, xI a3, xU] [] M Q := sx_ok cTable_placeFor 3 [3] rfl h
theorem vTable_placeFor_3 {d : Nat} {M : xM} {Q : xQ} {a0 a1 a3 a4 : Int}
    (h : ((M a0 0) ≤ a4 → Q (xI a4) M) ∧ (¬ ((M a0 0) ≤ a4) → (60 ≤ a4 → Q (xI a4) M) ∧ (¬ (60 ≤ a4) → (0 ≤ a4 ∧ a4 < 60) ∧ (((M (a0 + 1) a4) < a1 → Ru d kTable_placeFor 3 [xO 6 a0, xL a1, xU, xI a3, xI (z32 (a4 + 1))] [] M Q) ∧ (¬ ((M (a0 + 1) a4) < a1) → (0 ≤ a4 ∧ a4 < 60) ∧ ((¬ (M (a0 + 1) a4) = a1 → Q (xI a4) M) ∧ (¬ (¬ (M (a0 + 1) a4) = a1) → (0 ≤ a4 ∧ a4 < 60) ∧ ((a3 ≤ (M (a0 + 2) a4) → Q (xI a4) M) ∧ (¬ (a3 ≤ (M (a0 + 2) a4)) → Ru d kTable_placeFor 3 [xO 6 a0, xL a1, xU, xI a3, xI (z32 (a4 + 1))] [] M Q))))))))) :
    Ru d kTable_placeFor 3 [xO 6 a0, xL a1, xU, xI a3, xI a4] [] M Q := sx_ok cTable_placeFor 28 [3] rfl h
theorem vTable_find_0 {d : Nat} {M : xM} {Q : xQ} {a0 a1 a3 : Int}
    (h : Ru d kTable_placeFor 0 [xO 6 a0, xL a1, xU, xI a3, xU] [] M (fun r N => Ru (d + 1) kTable_find 6 [xO 6 a0, xL a1, xU, xI a3, xU] [r] N Q)) :
    Ru (d + 1) kTable_find 0 [xO 6 a0, xL a1, xU, xI a3, xU] [] M Q := sx_ok cTable_find 5 [6] rfl h
theorem vTable_find_6 {d : Nat} {M : xM} {Q : xQ} {a0 a1 a3 s0 : Int}
    (h : ((M a0 0) ≤ s0 → Q (xI (-1)) M) ∧ (¬ ((M a0 0) ≤ s0) → (60 ≤ s0 → Q (xI (-1)) M) ∧ (¬ (60 ≤ s0) → (0 ≤ s0 ∧ s0 < 60) ∧ ((¬ (M (a0 + 1) s0) = a1 → Q (xI (-1)) M) ∧ (¬ (¬ (M (a0 + 1) s0) = a1) → (0 ≤ s0 ∧ s0 < 60) ∧ ((¬ (M (a0 + 2) s0) = a3 → Q (xI (-1)) M) ∧ (¬ (¬ (M (a0 + 2) s0) = a3) → Q (xI s0) M))))))) :
    Ru (d + 1) kTable_find 6 [xO 6 a0, xL a1, xU, xI a3, xU] [xI s0] M Q := sx_ok cTable_find 24 [6] rfl h
theorem vTable_hasHop_0 {d : Nat} {M : xM} {Q : xQ} {a0 a1 : Int}
    (h : (a1 < 0 → Q (xI 0) M) ∧ (¬ (a1 < 0) → (60 ≤ a1 → Q (xI 0) M) ∧ (¬ (60 ≤ a1) → (0 ≤ a1 ∧ a1 < 60) ∧ (((M (a0 + 5) a1) ≤ 0 → Q (xI 0) M) ∧ (¬ ((M (a0 + 5) a1) ≤ 0) → Q (xI 1) M))))) :
    Ru d kTable_hasHop 0 [xO 6 a0, xI a1] [] M Q := sx_ok cTable_hasHop 14 [] rfl h
theorem vTable_hops_0 {d : Nat} {M : xM} {Q : xQ} {a0 : Int}
    (h : Ru d kTable_hops 4 [xO 6 a0, xI 0, xI 0] [] M Q) :
    Ru d kTable_hops 0 [xO 6 a0, xU, xU] [] M Q := sx_ok cTable_hops 5 [4] rfl h
theorem vTable_hops_4 {d : Nat} {M : xM} {Q : xQ} {a0 a1 a2 : Int}
    (h : (60 ≤ a2 → Q (xI a1) M) ∧ (¬ (60 ≤ a2) → (0 ≤ a2 ∧ a2 < 60) ∧ (((M (a0 + 5) a2) ≤ 0 → Ru d kTable_hops 4 [xO 6 a0, xI (z32 (a1 + 0)), xI (z32 (a2 + 1))] [] M Q) ∧ (¬ ((M (a0 + 5) a2) ≤ 0) → Ru d kTable_hops 4 [xO 6 a0, xI (z32 (a1 + 1)), xI (z32 (a2 + 1))] [] M Q)))) :
    Ru d kTable_hops 4 [xO 6 a0, xI a1, xI a2] [] M Q := sx_ok cTable_hops 16 [4] rfl h
theorem vTable_keyOfRule_0 {d : Nat} {M : xM} {Q : xQ} {a0 a1 : Int}
    (h : (a1 < 0 → Ru (d + 1) kTable_keyOfRule 27 [xO 6 a0, xI a1, xU] [] M Q) ∧ (¬ (a1 < 0) → ((M a0 0) ≤ a1 → Ru (d + 1) kTable_keyOfRule 27 [xO 6 a0, xI a1, xU] [] M Q) ∧ (¬ ((M a0 0) ≤ a1) → (60 ≤ a1 → Ru (d + 1) kTable_keyOfRule 27 [xO 6 a0, xI a1, xU] [] M Q) ∧ (¬ (60 ≤ a1) → (0 ≤ a1 ∧ a1 < 60) ∧ (Ru d kTable_hasHop 0 [xO 6 a0, xI (M (a0 + 3) a1)] [] M (fun r N => Ru (d + 1) kTable_keyOfRule 34 [xO 6 a0, xI a1, xI (M (a0 + 3) a1)] [r] N Q)))))) :
    Ru (d + 1) kTable_keyOfRule 0 [xO 6 a0, xI a1, xU] [] M Q := sx_ok cTable_keyOfRule 19 [27, 34] rfl h
theorem vTable_keyOfRule_27 {d : Nat} {M : xM} {Q : xQ} {a0 a1 : Int}
    (h : Ru d kTable_hasHop 0 [xO 6 a0, xI (-1)] [] M (fun r N => Ru (d + 1) kTable_keyOfRule 34 [xO 6 a0, xI a1, xI (-1)] [r] N Q)) :
    Ru (d + 1) kTable_keyOfRule 27 [xO 6 a0, xI a1, xU] [] M Q := sx_ok cTable_keyOfRule 6 [27, 34] rfl h
theorem vTable_keyOfRule_34 {d : Nat} {M : xM} {Q : xQ} {a0 a1 a2 s0 : Int}
    (h : (s0 = 0 → Q (xI (-1)) M) ∧ (¬ (s0 = 0) → (0 ≤ a2 ∧ a2 < 60) ∧ (Q (xI (M (a0 + 4) a2)) M))) :
    Ru (d + 1) kTable_keyOfRule 34 [xO 6 a0, xI a1, xI a2] [xI s0] M Q := sx_ok cTable_keyOfRule 8 [27, 34] rfl h
theorem vTable_ruleOf_0 {d : Nat} {M : xM} {Q : xQ} {a0 a1 : Int}
    (h : Ru (d + 1) kTable_ruleOf 5 [xO 6 a0, xL a1, xU, xI (-1), xI 0] [] M Q) :
    Ru (d + 1) kTable_ruleOf 0 [xO 6 a0, xL a1, xU, xU, xU] [] M Q := sx_ok cTable_ruleOf 5 [5, 51] rfl h
theorem vTable_ruleOf_5 {d : Nat} {M : xM} {Q : xQ} {a0 a1 a3 a4 : Int}
    (h : ((M a0 0) ≤ a4 → Q (xI a3) M) ∧ (¬ ((M a0 0) ≤ a4) → (60 ≤ a4 → Q (xI a3) M) ∧ (¬ (60 ≤ a4) → (0 ≤ a4 ∧ a4 < 60) ∧ ((a1 < (M (a0 + 1) a4) → Ru (d + 1) kTable_ruleOf 5 [xO 6 a0, xL a1, xU, xI a3, xI (z32 (a4 + 1))] [] M Q) ∧ (¬ (a1 < (M (a0 + 1) a4)) → (0 ≤ a4 ∧ a4 < 60) ∧ ((0 ≤ a4 ∧ a4 < 60) ∧ (Ru d kRS_widthOf 0 [xI (M (a0 + 2) a4)] [] M (fun r N => Ru (d + 1) kTable_ruleOf 51 [xO 6 a0, xL a1, xU, xI a3, xI a4] [r, xL (M (a0 + 1) a4), xL a1] N Q)))))))) :
    Ru (d + 1) kTable_ruleOf 5 [xO 6 a0, xL a1, xU, xI a3, xI a4] [] M Q := sx_ok cTable_ruleOf 24 [5, 51] rfl h
theorem vTable_ruleOf_51 {d : Nat} {M : xM} {Q : xQ} {a0 a1 a3 a4 s0 s1 s2 : Int}
    (h : ((z64 (s1 + s0)) ≤ s2 → Ru (d + 1) kTable_ruleOf 5 [xO 6 a0, xL a1, xU, xI a3, xI (z32 (a4 + 1))] [] M Q) ∧ (¬ ((z64 (s1 + s0)) ≤ s2) → Ru (d + 1) kTable_ruleOf 5 [xO 6 a0, xL a1, xU, xI a4, xI (z32 (a4 + 1))] [] M Q)) :
    Ru (d + 1) kTable_ruleOf 51 [xO 6 a0, xL a1, xU, xI a3, xI a4] [xL s0, xL s1, xL s2] M Q := sx_ok cTable_ruleOf 7 [5, 51] rfl h
theorem vTable_put_0 {d : Nat} {M : xM} {Q : xQ} {a0 a1 a3 a4 : Int}
    (h : Ru d kTable_find 0 [xO 6 a0, xL a1, xU, xI a3, xU] [] M (fun r N => Ru (d + 1) kTable_put 6 [xO 6 a0, xL a1, xU, xI a3, xI a4, xU] [r] N Q)) :
    Ru (d + 1) kTable_put 0 [xO 6 a0, xL a1, xU, xI a3, xI a4, xU] [] M Q := sx_ok cTable_put 5 [6, 19, 32, 48, 57, 59, 78] rfl h
theorem vTable_put_6 {d : Nat} {M : xM} {Q : xQ} {a0 a1 a3 a4 s0 : Int}
    (h : (s0 < 0 → Ru (d + 1) kTable_put 32 [xO 6 a0, xL a1, xU, xI a3, xI a4, xI s0] [] M Q) ∧ (¬ (s0 < 0) → Ru d kTable_keyOfRule 0 [xO 6 a0, xI s0, xU] [] M (fun r N => Ru (d + 1) kTable_put 19 [xO 6 a0, xL a1, xU, xI a3, xI a4, xI s0] [r] N Q))) :
    Ru (d + 1) kTable_put 6 [xO 6 a0, xL a1, xU, xI a3, xI a4, xU] [xI s0] M Q := sx_ok cTable_put 7 [6, 19, 32, 48, 57, 59, 78] rfl h
theorem vTable_put_19 {d : Nat} {M : xM} {Q : xQ} {a0 a1 a3 a4 a5 s0 : Int}
    (h : (¬ s0 = a4 → Ru (d + 1) kTable_put 32 [xO 6 a0, xL a1, xU, xI a3, xI a4, xI a5] [] M Q) ∧ (¬ (¬ s0 = a4) → (0 ≤ a5 ∧ a5 < 60) ∧ (Q (xI (M (a0 + 3) a5)) M))) :
    Ru (d + 1) kTable_put 19 [xO 6 a0, xL a1, xU, xI a3, xI a4, xI a5] [xI s0] M Q := sx_ok cTable_put 8 [6, 19, 32, 48, 57, 59, 78] rfl h
theorem vTable_put_32 {d : Nat} {M : xM} {Q : xQ} {a0 a1 a3 a4 a5 : Int}
    (h : (a5 < 0 → Ru d kTable_makeRoom 0 [xO 6 a0, xL a1, xU, xI a3, xU, xU] [] M (fun r N => Ru (d + 1) kTable_put 57 [xO 6 a0, xL a1, xU, xI a3, xI a4, xI a5] [r] N Q)) ∧ (¬ (a5 < 0) → (0 ≤ a5 ∧ a5 < 60) ∧ (Ru d kTable_release 0 [xO 6 a0, xI (M (a0 + 3) a5)] [] M (fun r N => Ru (d + 1) kTable_put 48 [xO 6 a0, xL a1, xU, xI a3, xI a4, xI a5] [] N Q)))) :
    Ru (d + 1) kTable_put 32 [xO 6 a0, xL a1, xU, xI a3, xI a4, xI a5] [] M Q := sx_ok cTable_put 9 [6, 19, 32, 48, 57, 59, 78] rfl h
theorem vTable_put_48 {d : Nat} {M : xM} {Q : xQ} {a0 a1 a3 a4 a5 : Int}
    (h : Ru (d + 1) kTable_put 59 [xO 6 a0, xL a1, xU, xI a3, xI a4, xI a5] [] M Q) :
    Ru (d + 1) kTable_put 48 [xO 6 a0, xL a1, xU, xI a3, xI a4, xI a5] [] M Q := sx_ok cTable_put 2 [6, 19, 32, 48, 57, 59, 78] rfl h
theorem vTable_put_57 {d : Nat} {M : xM} {Q : xQ} {a0 a1 a3 a4 a5 s0 : Int}
    (h : Ru (d + 1) kTable_put 59 [xO 6 a0, xL a1, xU, xI a3, xI a4, xI s0] [] M Q) :
    Ru (d + 1) kTable_put 57 [xO 6 a0, xL a1, xU, xI a3, xI a4, xI a5] [xI s0] M Q := sx_ok cTable_put 2 [6, 19, 32, 48, 57, 59, 78] rfl h
theorem vTable_put_59 {d : Nat} {M : xM} {Q : xQ} {a0 a1 a3 a4 a5 : Int}
    (h : (0 ≤ a5 → Ru d kTable_takeHop 0 [xO 6 a0, xI a4, xU, xU] [] M (fun r N => Ru (d + 1) kTable_put 78 [xO 6 a0, xL a1, xU, xI a3, xI a4, xI a5] [r, xI a5, xAI 60 (a0 + 3)] N Q)) ∧ (¬ (0 ≤ a5) → Q (xI (-1)) M)) :
    Ru (d + 1) kTable_put 59 [xO 6 a0, xL a1, xU, xI a3, xI a4, xI a5] [] M Q := sx_ok cTable_put 9 [6, 19, 32, 48, 57, 59, 78] rfl h
theorem vTable_put_78 {d : Nat} {M : xM} {Q : xQ} {a0 a1 a3 a4 a5 s0 s1 s2 : Int}
    (h : (0 ≤ s1 ∧ s1 < 60) ∧ ((0 ≤ a5 ∧ a5 < 60) ∧ (Q (xI ((up M s2 s1 s0) (a0 + 3) a5)) (up M s2 s1 s0)))) :
    Ru (d + 1) kTable_put 78 [xO 6 a0, xL a1, xU, xI a3, xI a4, xI a5] [xI s0, xI s1, xAI 60 s2] M Q := sx_ok cTable_put 7 [6, 19, 32, 48, 57, 59, 78] rfl h
theorem vTable_makeRoom_0 {d : Nat} {M : xM} {Q : xQ} {a0 a1 a3 : Int}
    (h : ((M a0 0) < 60 → Ru d kTable_placeFor 0 [xO 6 a0, xL a1, xU, xI a3, xU] [] M (fun r N => Ru (d + 1) kTable_makeRoom 17 [xO 6 a0, xL a1, xU, xI a3, xU, xU] [r] N Q)) ∧ (¬ ((M a0 0) < 60) → Q (xI (-1)) M)) :
    Ru (d + 1) kTable_makeRoom 0 [xO 6 a0, xL a1, xU, xI a3, xU, xU] [] M Q := sx_ok cTable_makeRoom 9 [17, 25] rfl h
theorem vTable_makeRoom_17 {d : Nat} {M : xM} {Q : xQ} {a0 a1 a3 s0 : Int}
    (h : Ru (d + 1) kTable_makeRoom 25 [xO 6 a0, xL a1, xU, xI a3, xI s0, xI (M a0 0)] [] M Q) :
    Ru (d + 1) kTable_makeRoom 17 [xO 6 a0, xL a1, xU, xI a3, xU, xU] [xI s0] M Q := sx_ok cTable_makeRoom 5 [17, 25] rfl h
theorem vTable_makeRoom_25 {d : Nat} {M : xM} {Q : xQ} {a0 a1 a3 a4 a5 : Int}
    (h : (a5 ≤ a4 → (0 ≤ a4 ∧ a4 < 60) ∧ ((0 ≤ a4 ∧ a4 < 60) ∧ (Q (xI a4) (up (up (up M (a0 + 1) a4 a1) (a0 + 2) a4 a3) a0 0 (z32 (((up (up M (a0 + 1) a4 a1) (a0 + 2) a4 a3) a0 0) + 1)))))) ∧ (¬ (a5 ≤ a4) → (0 ≤ (z32 (a5 - 1)) ∧ (z32 (a5 - 1)) < 60) ∧ ((0 ≤ a5 ∧ a5 < 60) ∧ ((0 ≤ (z32 (a5 - 1)) ∧ (z32 (a5 - 1)) < 60) ∧ ((0 ≤ a5 ∧ a5 < 60) ∧ ((0 ≤ (z32 (a5 - 1)) ∧ (z32 (a5 - 1)) < 60) ∧ ((0 ≤ a5 ∧ a5 < 60) ∧ (Ru (d + 1) kTable_makeRoom 25 [xO 6 a0, xL a1, xU, xI a3, xI a4, xI (z32 (a5 + (-1)))] [] (up (up (up M (a0 + 1) a5 (M (a0 + 1) (z32 (a5 - 1)))) (a0 + 2) a5 ((up M (a0 + 1) a5 (M (a0 + 1) (z32 (a5 - 1)))) (a0 + 2) (z32 (a5 - 1)))) (a0 + 3) a5 ((up (up M (a0 + 1) a5 (M (a0 + 1) (z32 (a5 - 1)))) (a0 + 2) a5 ((up M (a0 + 1) a5 (M (a0 + 1) (z32 (a5 - 1)))) (a0 + 2) (z32 (a5 - 1)))) (a0 + 3) (z32 (a5 - 1)))) Q)))))))) :
    Ru (d + 1) kTable_makeRoom 25 [xO 6 a0, xL a1, xU, xI a3, xI a4, xI a5] [] M Q := sx_ok cTable_makeRoom 36 [17, 25] rfl h
theorem vTable_drop_0 {d : Nat} {M : xM} {Q : xQ} {a0 a1 : Int}
    (h : (a1 < 0 → Q xU M) ∧ (¬ (a1 < 0) → ((M a0 0) ≤ a1 → Q xU M) ∧ (¬ ((M a0 0) ≤ a1) → (a1 < 60 → (0 ≤ a1 ∧ a1 < 60) ∧ (Ru d kTable_release 0 [xO 6 a0, xI (M (a0 + 3) a1)] [] M (fun r N => Ru (d + 1) kTable_drop 29 [xO 6 a0, xI a1, xU] [] N Q))) ∧ (¬ (a1 < 60) → Q xU M)))) :
    Ru (d + 1) kTable_drop 0 [xO 6 a0, xI a1, xU] [] M Q := sx_ok cTable_drop 16 [29, 33] rfl h
theorem vTable_drop_29 {d : Nat} {M : xM} {Q : xQ} {a0 a1 : Int}
    (h : Ru (d + 1) kTable_drop 33 [xO 6 a0, xI a1, xI (z32 (a1 + 1))] [] M Q) :
    Ru (d + 1) kTable_drop 29 [xO 6 a0, xI a1, xU] [] M Q := sx_ok cTable_drop 5 [29, 33] rfl h
theorem vTable_drop_33 {d : Nat} {M : xM} {Q : xQ} {a0 a1 a2 : Int}
    (h : ((M a0 0) ≤ a2 → Q xU (up M a0 0 (z32 ((M a0 0) - 1)))) ∧ (¬ ((M a0 0) ≤ a2) → (60 ≤ a2 → Q xU (up M a0 0 (z32 ((M a0 0) - 1)))) ∧ (¬ (60 ≤ a2) → (0 ≤ a2 ∧ a2 < 60) ∧ ((0 ≤ (z32 (a2 - 1)) ∧ (z32 (a2 - 1)) < 60) ∧ ((0 ≤ a2 ∧ a2 < 60) ∧ ((0 ≤ (z32 (a2 - 1)) ∧ (z32 (a2 - 1)) < 60) ∧ ((0 ≤ a2 ∧ a2 < 60) ∧ ((0 ≤ (z32 (a2 - 1)) ∧ (z32 (a2 - 1)) < 60) ∧ (Ru (d + 1) kTable_drop 33 [xO 6 a0, xI a1, xI (z32 (a2 + 1))] [] (up (up (up M (a0 + 1) (z32 (a2 - 1)) (M (a0 + 1) a2)) (a0 + 2) (z32 (a2 - 1)) ((up M (a0 + 1) (z32 (a2 - 1)) (M (a0 + 1) a2)) (a0 + 2) a2)) (a0 + 3) (z32 (a2 - 1)) ((up (up M (a0 + 1) (z32 (a2 - 1)) (M (a0 + 1) a2)) (a0 + 2) (z32 (a2 - 1)) ((up M (a0 + 1) (z32 (a2 - 1)) (M (a0 + 1) a2)) (a0 + 2) a2)) (a0 + 3) a2)) Q))))))))) :
    Ru (d + 1) kTable_drop 33 [xO 6 a0, xI a1, xI a2] [] M Q := sx_ok cTable_drop 40 [29, 33] rfl h
theorem vTable_release_0 {d : Nat} {M : xM} {Q : xQ} {a0 a1 : Int}
    (h : Ru d kTable_hasHop 0 [xO 6 a0, xI a1] [] M (fun r N => Ru (d + 1) kTable_release 5 [xO 6 a0, xI a1] [r] N Q)) :
    Ru (d + 1) kTable_release 0 [xO 6 a0, xI a1] [] M Q := sx_ok cTable_release 4 [5] rfl h
theorem vTable_release_5 {d : Nat} {M : xM} {Q : xQ} {a0 a1 s0 : Int}
    (h : (s0 = 0 → Q xU M) ∧ (¬ (s0 = 0) → (0 ≤ a1 ∧ a1 < 60) ∧ ((0 ≤ a1 ∧ a1 < 60) ∧ (Q xU (up M (a0 + 5) a1 (z32 ((M (a0 + 5) a1) - 1))))))) :
    Ru (d + 1) kTable_release 5 [xO 6 a0, xI a1] [xI s0] M Q := sx_ok cTable_release 11 [5] rfl h
theorem vTable_takeHop_0 {d : Nat} {M : xM} {Q : xQ} {a0 a1 : Int}
    (h : Ru d kTable_takeHop 5 [xO 6 a0, xI a1, xI (-1), xI 59] [] M Q) :
    Ru d kTable_takeHop 0 [xO 6 a0, xI a1, xU, xU] [] M Q := sx_ok cTable_takeHop 5 [5] rfl h
theorem vTable_takeHop_5 {d : Nat} {M : xM} {Q : xQ} {a0 a1 a2 a3 : Int}
    (h : (a3 < 0 → (a2 < 0 → Q (xI a2) M) ∧ (¬ (a2 < 0) → (0 ≤ a2 ∧ a2 < 60) ∧ ((0 ≤ a2 ∧ a2 < 60) ∧ (Q (xI a2) (up (up M (a0 + 4) a2 a1) (a0 + 5) a2 1))))) ∧ (¬ (a3 < 0) → (0 ≤ a3 ∧ a3 < 60) ∧ (((M (a0 + 5) a3) ≤ 0 → (0 ≤ a3 ∧ a3 < 60) ∧ ((¬ (M (a0 + 5) a3) = 0 → Ru d kTable_takeHop 5 [xO 6 a0, xI a1, xI a2, xI (z32 (a3 + (-1)))] [] M Q) ∧ (¬ (¬ (M (a0 + 5) a3) = 0) → Ru d kTable_takeHop 5 [xO 6 a0, xI a1, xI a3, xI (z32 (a3 + (-1)))] [] M Q))) ∧ (¬ ((M (a0 + 5) a3) ≤ 0) → (0 ≤ a3 ∧ a3 < 60) ∧ ((¬ (M (a0 + 4) a3) = a1 → (0 ≤ a3 ∧ a3 < 60) ∧ ((¬ (M (a0 + 5) a3) = 0 → Ru d kTable_takeHop 5 [xO 6 a0, xI a1, xI a2, xI (z32 (a3 + (-1)))] [] M Q) ∧ (¬ (¬ (M (a0 + 5) a3) = 0) → Ru d kTable_takeHop 5 [xO 6 a0, xI a1, xI a3, xI (z32 (a3 + (-1)))] [] M Q))) ∧ (¬ (¬ (M (a0 + 4) a3) = a1) → (0 ≤ a3 ∧ a3 < 60) ∧ ((0 ≤ a3 ∧ a3 < 60) ∧ (Q (xI a3) (up M (a0 + 5) a3 (z32 ((M (a0 + 5) a3) + 1))))))))))) :
    Ru d kTable_takeHop 5 [xO 6 a0, xI a1, xI a2, xI a3] [] M Q := sx_ok cTable_takeHop 24 [5] rfl h
theorem vTable_hasRulesOf_0 {d : Nat} {M : xM} {Q : xQ} {a0 a1 : Int}
    (h : ((M a0 0) = (M a1 0) → Ru d kTable_hasRulesOf 15 [xO 6 a0, xO 1 a1, xI 0] [] M Q) ∧ (¬ ((M a0 0) = (M a1 0)) → Q (xI 0) M)) :
    Ru d kTable_hasRulesOf 0 [xO 6 a0, xO 1 a1, xU] [] M Q := sx_ok cTable_hasRulesOf 8 [15] rfl h
theorem vTable_hasRulesOf_15 {d : Nat} {M : xM} {Q : xQ} {a0 a1 a2 : Int}
    (h : ((M a0 0) ≤ a2 → Q (xI 1) M) ∧ (¬ ((M a0 0) ≤ a2) → (60 ≤ a2 → Q (xI 1) M) ∧ (¬ (60 ≤ a2) → (0 ≤ a2 ∧ a2 < 60) ∧ ((0 ≤ a2 ∧ a2 < 60) ∧ ((¬ (M (a0 + 1) a2) = (M (a1 + 1) a2) → Q (xI 0) M) ∧ (¬ (¬ (M (a0 + 1) a2) = (M (a1 + 1) a2)) → (0 ≤ a2 ∧ a2 < 60) ∧ ((0 ≤ a2 ∧ a2 < 60) ∧ ((¬ (M (a0 + 2) a2) = (M (a1 + 2) a2) → Q (xI 0) M) ∧ (¬ (¬ (M (a0 + 2) a2) = (M (a1 + 2) a2)) → (0 ≤ a2 ∧ a2 < 60) ∧ ((0 ≤ a2 ∧ a2 < 60) ∧ (((M (a0 + 3) a2) = (M (a1 + 3) a2) → Ru d kTable_hasRulesOf 15 [xO 6 a0, xO 1 a1, xI (z32 (a2 + 1))] [] M Q) ∧ (¬ ((M (a0 + 3) a2) = (M (a1 + 3) a2)) → Q (xI 0) M)))))))))))) :
    Ru d kTable_hasRulesOf 15 [xO 6 a0, xO 1 a1, xI a2] [] M Q := sx_ok cTable_hasRulesOf 37 [15] rfl h
theorem vTable_takeRules_0 {d : Nat} {M : xM} {Q : xQ} {a0 a1 : Int}
    (h : Ru d kTable_takeRules 2 [xO 6 a0, xO 1 a1, xI 0, xU] [] M Q) :
    Ru d kTable_takeRules 0 [xO 6 a0, xO 1 a1, xU, xU] [] M Q := sx_ok cTable_takeRules 3 [2, 31] rfl h
theorem vTable_takeRules_2 {d : Nat} {M : xM} {Q : xQ} {a0 a1 a2 : Int}
    (h : (60 ≤ a2 → Ru d kTable_takeRules 31 [xO 6 a0, xO 1 a1, xI 0, xU] [] (up M a0 0 (M a1 0)) Q) ∧ (¬ (60 ≤ a2) → (0 ≤ a2 ∧ a2 < 60) ∧ (Ru d kTable_takeRules 2 [xO 6 a0, xO 1 a1, xI (z32 (a2 + 1)), xU] [] (up M (a0 + 5) a2 0) Q))) :
    Ru d kTable_takeRules 2 [xO 6 a0, xO 1 a1, xI a2, xU] [] M Q := sx_ok cTable_takeRules 11 [2, 31] rfl h
set_option maxRecDepth 20000 in
theorem vTable_takeRules_31 {d : Nat} {M : xM} {Q : xQ} {a0 a1 a2 : Int} {w3 : xV}
    (h : ((M a0 0) ≤ a2 → Q xU M) ∧ (¬ ((M a0 0) ≤ a2) → (60 ≤ a2 → Q xU M) ∧ (¬ (60 ≤ a2) → (0 ≤ a2 ∧ a2 < 60) ∧ ((0 ≤ a2 ∧ a2 < 60) ∧ ((0 ≤ a2 ∧ a2 < 60) ∧ ((0 ≤ a2 ∧ a2 < 60) ∧ ((0 ≤ a2 ∧ a2 < 60) ∧ ((0 ≤ a2 ∧ a2 < 60) ∧ ((((up (up M (a0 + 1) a2 (M (a1 + 1) a2)) (a0 + 2) a2 ((up M (a0 + 1) a2 (M (a1 + 1) a2)) (a1 + 2) a2)) (a1 + 3) a2) < 0 → Ru d kTable_takeRules 31 [xO 6 a0, xO 1 a1, xI (z32 (a2 + 1)), xI ((up (up M (a0 + 1) a2 (M (a1 + 1) a2)) (a0 + 2) a2 ((up M (a0 + 1) a2 (M (a1 + 1) a2)) (a1 + 2) a2)) (a1 + 3) a2)] [] (up (up (up M (a0 + 1) a2 (M (a1 + 1) a2)) (a0 + 2) a2 ((up M (a0 + 1) a2 (M (a1 + 1) a2)) (a1 + 2) a2)) (a0 + 3) a2 ((up (up M (a0 + 1) a2 (M (a1 + 1) a2)) (a0 + 2) a2 ((up M (a0 + 1) a2 (M (a1 + 1) a2)) (a1 + 2) a2)) (a1 + 3) a2)) Q) ∧ (¬ (((up (up M (a0 + 1) a2 (M (a1 + 1) a2)) (a0 + 2) a2 ((up M (a0 + 1) a2 (M (a1 + 1) a2)) (a1 + 2) a2)) (a1 + 3) a2) < 0) → (60 ≤ ((up (up M (a0 + 1) a2 (M (a1 + 1) a2)) (a0 + 2) a2 ((up M (a0 + 1) a2 (M (a1 + 1) a2)) (a1 + 2) a2)) (a1 + 3) a2) → Ru d kTable_takeRules 31 [xO 6 a0, xO 1 a1, xI (z32 (a2 + 1)), xI ((up (up M (a0 + 1) a2 (M (a1 + 1) a2)) (a0 + 2) a2 ((up M (a0 + 1) a2 (M (a1 + 1) a2)) (a1 + 2) a2)) (a1 + 3) a2)] [] (up (up (up M (a0 + 1) a2 (M (a1 + 1) a2)) (a0 + 2) a2 ((up M (a0 + 1) a2 (M (a1 + 1) a2)) (a1 + 2) a2)) (a0 + 3) a2 ((up (up M (a0 + 1) a2 (M (a1 + 1) a2)) (a0 + 2) a2 ((up M (a0 + 1) a2 (M (a1 + 1) a2)) (a1 + 2) a2)) (a1 + 3) a2)) Q) ∧ (¬ (60 ≤ ((up (up M (a0 + 1) a2 (M (a1 + 1) a2)) (a0 + 2) a2 ((up M (a0 + 1) a2 (M (a1 + 1) a2)) (a1 + 2) a2)) (a1 + 3) a2)) → (0 ≤ ((up (up M (a0 + 1) a2 (M (a1 + 1) a2)) (a0 + 2) a2 ((up M (a0 + 1) a2 (M (a1 + 1) a2)) (a1 + 2) a2)) (a1 + 3) a2) ∧ ((up (up M (a0 + 1) a2 (M (a1 + 1) a2)) (a0 + 2) a2 ((up M (a0 + 1) a2 (M (a1 + 1) a2)) (a1 + 2) a2)) (a1 + 3) a2) < 60) ∧ ((0 ≤ ((up (up M (a0 + 1) a2 (M (a1 + 1) a2)) (a0 + 2) a2 ((up M (a0 + 1) a2 (M (a1 + 1) a2)) (a1 + 2) a2)) (a1 + 3) a2) ∧ ((up (up M (a0 + 1) a2 (M (a1 + 1) a2)) (a0 + 2) a2 ((up M (a0 + 1) a2 (M (a1 + 1) a2)) (a1 + 2) a2)) (a1 + 3) a2) < 60) ∧ (Ru d kTable_takeRules 31 [xO 6 a0, xO 1 a1, xI (z32 (a2 + 1)), xI ((up (up M (a0 + 1) a2 (M (a1 + 1) a2)) (a0 + 2) a2 ((up M (a0 + 1) a2 (M (a1 + 1) a2)) (a1 + 2) a2)) (a1 + 3) a2)] [] (up (up (up (up M (a0 + 1) a2 (M (a1 + 1) a2)) (a0 + 2) a2 ((up M (a0 + 1) a2 (M (a1 + 1) a2)) (a1 + 2) a2)) (a0 + 3) a2 ((up (up M (a0 + 1) a2 (M (a1 + 1) a2)) (a0 + 2) a2 ((up M (a0 + 1) a2 (M (a1 + 1) a2)) (a1 + 2) a2)) (a1 + 3) a2)) (a0 + 5) ((up (up M (a0 + 1) a2 (M (a1 + 1) a2)) (a0 + 2) a2 ((up M (a0 + 1) a2 (M (a1 + 1) a2)) (a1 + 2) a2)) (a1 + 3) a2) (z32 (((up (up (up M (a0 + 1) a2 (M (a1 + 1) a2)) (a0 + 2) a2 ((up M (a0 + 1) a2 (M (a1 + 1) a2)) (a1 + 2) a2)) (a0 + 3) a2 ((up (up M (a0 + 1) a2 (M (a1 + 1) a2)) (a0 + 2) a2 ((up M (a0 + 1) a2 (M (a1 + 1) a2)) (a1 + 2) a2)) (a1 + 3) a2)) (a0 + 5) ((up (up M (a0 + 1) a2 (M (a1 + 1) a2)) (a0 + 2) a2 ((up M (a0 + 1) a2 (M (a1 + 1) a2)) (a1 + 2) a2)) (a1 + 3) a2)) + 1))) Q))))))))))))) :
    Ru d kTable_takeRules 31 [xO 6 a0, xO 1 a1, xI a2, w3] [] M Q := sx_ok cTable_takeRules 49 [2, 31] rfl h
theorem vTape_hasRoom_0 {d : Nat} {M : xM} {Q : xQ} {a0 : Int}
    (h : (400 < (z32 ((M a0 0) + 20)) → Q (xI 0) M) ∧ (¬ (400 < (z32 ((M a0 0) + 20))) → Q (xI 1) M)) :
    Ru d kTape_hasRoom 0 [xO 7 a0] [] M Q := sx_ok cTape_hasRoom 10 [] rfl h
theorem vTape_append_0 {d : Nat} {M : xM} {Q : xQ} {a0 a1 : Int}
    (h : Ru d kTape_append 3 [xO 7 a0, xI a1, xI 24] [] M Q) :
    Ru d kTape_append 0 [xO 7 a0, xI a1, xU] [] M Q := sx_ok cTape_append 3 [3] rfl h
theorem vTape_append_3 {d : Nat} {M : xM} {Q : xQ} {a0 a1 a2 : Int}
    (h : (a2 < 0 → Q xU M) ∧ (¬ (a2 < 0) → (400 ≤ (M a0 0) → Q xU M) ∧ (¬ (400 ≤ (M a0 0)) → (0 ≤ (M a0 0) ∧ (M a0 0) < 400) ∧ (Ru d kTape_append 3 [xO 7 a0, xI a1, xI (z32 (a2 + (-8)))] [] (up (up M (a0 + 1) (M a0 0) (iand (ishr a1 a2) 255)) a0 0 (z32 (((up M (a0 + 1) (M a0 0) (iand (ishr a1 a2) 255)) a0 0) + 1))) Q)))) :
    Ru d kTape_append 3 [xO 7 a0, xI a1, xI a2] [] M Q := sx_ok cTape_append 25 [3] rfl h
theorem vTape_readInto_0 {d : Nat} {M : xM} {Q : xQ} {a0 a1 : Int}
    (h : Ru d kTable_clear 0 [xO 6 a1, xU] [] M (fun r N => Ru (d + 1) kTape_readInto 4 [xO 7 a0, xO 6 a1, xU, xU] [] N Q)) :
    Ru (d + 1) kTape_readInto 0 [xO 7 a0, xO 6 a1, xU, xU] [] M Q := sx_ok cTape_readInto 3 [4, 18, 41, 52, 71] rfl h
theorem vTape_readInto_4 {d : Nat} {M : xM} {Q : xQ} {a0 a1 : Int}
    (h : Ru (d + 1) kTape_readInto 18 [xO 7 a0, xO 6 a1, xI 1, xI 0] [] (up (up M a0 2 0) a0 3 0) Q) :
    Ru (d + 1) kTape_readInto 4 [xO 7 a0, xO 6 a1, xU, xU] [] M Q := sx_ok cTape_readInto 11 [4, 18, 41, 52, 71] rfl h
theorem vTape_readInto_18 {d : Nat} {M : xM} {Q : xQ} {a0 a1 a2 a3 : Int}
    (h : (400 < a3 → Q (xI (M a0 3)) M) ∧ (¬ (400 < a3) → (a2 = 0 → Q (xI (M a0 3)) M) ∧ (¬ (a2 = 0) → (¬ (M a0 3) = 0 → Q (xI (M a0 3)) M) ∧ (¬ (¬ (M a0 3) = 0) → Ru d kTape_readLine 0 [xO 7 a0, xO 6 a1, xU] [] M (fun r N => Ru (d + 1) kTape_readInto 41 [xO 7 a0, xO 6 a1, xI a2, xI a3] [] N Q))))) :
    Ru (d + 1) kTape_readInto 18 [xO 7 a0, xO 6 a1, xI a2, xI a3] [] M Q := sx_ok cTape_readInto 12 [4, 18, 41, 52, 71] rfl h
theorem vTape_readInto_41 {d : Nat} {M : xM} {Q : xQ} {a0 a1 a2 a3 : Int}
    (h : (¬ (M a0 3) = 0 → ((0 : Int) = 0 → Ru (d + 1) kTape_readInto 71 [xO 7 a0, xO 6 a1, xI 0, xI a3] [] M Q) ∧ (¬ ((0 : Int) = 0) → Ru d kTape_expect 0 [xO 7 a0, xI 59] [] M (fun r N => Ru (d + 1) kTape_readInto 71 [xO 7 a0, xO 6 a1, xI 0, xI a3] [] N Q))) ∧ (¬ (¬ (M a0 3) = 0) → Ru d kTape_atEnd 0 [xO 7 a0] [] M (fun r N => Ru (d + 1) kTape_readInto 52 [xO 7 a0, xO 6 a1, xI a2, xI a3] [r] N Q))) :
    Ru (d + 1) kTape_readInto 41 [xO 7 a0, xO 6 a1, xI a2, xI a3] [] M Q := sx_ok cTape_readInto 11 [4, 18, 41, 52, 71] rfl h
theorem vTape_readInto_52 {d : Nat} {M : xM} {Q : xQ} {a0 a1 a2 a3 s0 : Int}
    (h : (¬ s0 = 0 → ((0 : Int) = 0 → Ru (d + 1) kTape_readInto 71 [xO 7 a0, xO 6 a1, xI 0, xI a3] [] M Q) ∧ (¬ ((0 : Int) = 0) → Ru d kTape_expect 0 [xO 7 a0, xI 59] [] M (fun r N => Ru (d + 1) kTape_readInto 71 [xO 7 a0, xO 6 a1, xI 0, xI a3] [] N Q))) ∧ (¬ (¬ s0 = 0) → ((1 : Int) = 0 → Ru (d + 1) kTape_readInto 71 [xO 7 a0, xO 6 a1, xI 1, xI a3] [] M Q) ∧ (¬ ((1 : Int) = 0) → Ru d kTape_expect 0 [xO 7 a0, xI 59] [] M (fun r N => Ru (d + 1) kTape_readInto 71 [xO 7 a0, xO 6 a1, xI 1, xI a3] [] N Q)))) :
    Ru (d + 1) kTape_readInto 52 [xO 7 a0, xO 6 a1, xI a2, xI a3] [xI s0] M Q := sx_ok cTape_readInto 10 [4, 18, 41, 52, 71] rfl h
theorem vTape_readInto_71 {d : Nat} {M : xM} {Q : xQ} {a0 a1 a2 a3 : Int}
    (h : Ru (d + 1) kTape_readInto 18 [xO 7 a0, xO 6 a1, xI a2, xI (z32 (a3 + 1))] [] M Q) :
    Ru (d + 1) kTape_readInto 71 [xO 7 a0, xO 6 a1, xI a2, xI a3] [] M Q := sx_ok cTape_readInto 3 [4, 18, 41, 52, 71] rfl h
theorem vTape_readLine_0 {d : Nat} {M : xM} {Q : xQ} {a0 a1 : Int}
    (h : Ru d kTape_nextSign 0 [xO 7 a0] [] M (fun r N => Ru (d + 1) kTape_readLine 4 [xO 7 a0, xO 6 a1, xU] [r] N Q)) :
    Ru (d + 1) kTape_readLine 0 [xO 7 a0, xO 6 a1, xU] [] M Q := sx_ok cTape_readLine 3 [4, 9, 17, 24, 46, 58] rfl h
theorem vTape_readLine_4 {d : Nat} {M : xM} {Q : xQ} {a0 a1 s0 : Int}
    (h : Ru d kTape_isDigit 0 [xI s0] [] M (fun r N => Ru (d + 1) kTape_readLine 9 [xO 7 a0, xO 6 a1, xI s0] [r] N Q)) :
    Ru (d + 1) kTape_readLine 4 [xO 7 a0, xO 6 a1, xU] [xI s0] M Q := sx_ok cTape_readLine 4 [4, 9, 17, 24, 46, 58] rfl h
theorem vTape_readLine_9 {d : Nat} {M : xM} {Q : xQ} {a0 a1 a2 s0 : Int}
    (h : (s0 = 0 → Ru d kTape_isStrides 0 [xO 7 a0, xU] [] M (fun r N => Ru (d + 1) kTape_readLine 24 [xO 7 a0, xO 6 a1, xI a2] [r] N Q)) ∧ (¬ (s0 = 0) → Ru d kTape_readRule 0 [xO 7 a0, xO 6 a1, xU, xU, xU, xU, xU, xU] [] M (fun r N => Ru (d + 1) kTape_readLine 17 [xO 7 a0, xO 6 a1, xI a2] [] N Q))) :
    Ru (d + 1) kTape_readLine 9 [xO 7 a0, xO 6 a1, xI a2] [xI s0] M Q := sx_ok cTape_readLine 5 [4, 9, 17, 24, 46, 58] rfl h
theorem vTape_readLine_17 {d : Nat} {M : xM} {Q : xQ} {a0 a1 a2 : Int}
    (h : Ru (d + 1) kTape_readLine 58 [xO 7 a0, xO 6 a1, xI a2] [] M Q) :
    Ru (d + 1) kTape_readLine 17 [xO 7 a0, xO 6 a1, xI a2] [] M Q := sx_ok cTape_readLine 2 [4, 9, 17, 24, 46, 58] rfl h
theorem vTape_readLine_24 {d : Nat} {M : xM} {Q : xQ} {a0 a1 a2 s0 : Int}
    (h : (s0 = 0 → Ru d kTape_fail 0 [xO 7 a0, xI (M a0 2), xI 1] [] M (fun r N => Ru (d + 1) kTape_readLine 58 [xO 7 a0, xO 6 a1, xI a2] [] N Q)) ∧ (¬ (s0 = 0) → Ru d kTape_readStrides 0 [xO 7 a0, xO 6 a1, xU, xU, xU, xU, xU] [] (up M a0 2 (z32 ((M a0 2) + 7))) (fun r N => Ru (d + 1) kTape_readLine 46 [xO 7 a0, xO 6 a1, xI a2] [] N Q))) :
    Ru (d + 1) kTape_readLine 24 [xO 7 a0, xO 6 a1, xI a2] [xI s0] M Q := sx_ok cTape_readLine 12 [4, 9, 17, 24, 46, 58] rfl h
theorem vTape_readLine_46 {d : Nat} {M : xM} {Q : xQ} {a0 a1 a2 : Int}
    (h : Ru (d + 1) kTape_readLine 58 [xO 7 a0, xO 6 a1, xI a2] [] M Q) :
    Ru (d + 1) kTape_readLine 46 [xO 7 a0, xO 6 a1, xI a2] [] M Q := sx_ok cTape_readLine 2 [4, 9, 17, 24, 46, 58] rfl h
theorem vTape_readLine_58 {d : Nat} {M : xM} {Q : xQ} {a0 a1 a2 : Int}
    (h : Q xU M) :
    Ru (d + 1) kTape_readLine 58 [xO 7 a0, xO 6 a1, xI a2] [] M Q := sx_ok cTape_readLine 2 [4, 9, 17, 24, 46, 58] rfl h
theorem vTape_readRule_0 {d : Nat} {M : xM} {Q : xQ} {a0 a1 : Int}
    (h : Ru (d + 1) kTape_readRule 5 [xO 7 a0, xO 6 a1, xL 0, xU, xI 0, xU, xU, xU] [] M Q) :
    Ru (d + 1) kTape_readRule 0 [xO 7 a0, xO 6 a1, xU, xU, xU, xU, xU, xU] [] M Q := sx_ok cTape_readRule 5 [5, 22, 33, 48, 52, 65, 80, 95, 101, 107, 115, 135, 138] rfl h
theorem vTape_readRule_5 {d : Nat} {M : xM} {Q : xQ} {a0 a1 a2 a4 : Int}
    (h : (4 ≤ a4 → Ru d kTape_expect 0 [xO 7 a0, xI 47] [] M (fun r N => Ru (d + 1) kTape_readRule 48 [xO 7 a0, xO 6 a1, xL a2, xU, xI a4, xU, xU, xU] [] N Q)) ∧ (¬ (4 ≤ a4) → (a4 ≤ 0 → Ru (d + 1) kTape_readRule 22 [xO 7 a0, xO 6 a1, xL a2, xU, xI a4, xU, xU, xU] [] M Q) ∧ (¬ (a4 ≤ 0) → Ru d kTape_expect 0 [xO 7 a0, xI 46] [] M (fun r N => Ru (d + 1) kTape_readRule 22 [xO 7 a0, xO 6 a1, xL a2, xU, xI a4, xU, xU, xU] [] N Q)))) :
    Ru (d + 1) kTape_readRule 5 [xO 7 a0, xO 6 a1, xL a2, xU, xI a4, xU, xU, xU] [] M Q := sx_ok cTape_readRule 9 [5, 22, 33, 48, 52, 65, 80, 95, 101, 107, 115, 135, 138] rfl h
theorem vTape_readRule_22 {d : Nat} {M : xM} {Q : xQ} {a0 a1 a2 a4 : Int}
    (h : Ru d kTape_readNumber 0 [xO 7 a0, xI 255, xU, xU, xU] [] M (fun r N => Ru (d + 1) kTape_readRule 33 [xO 7 a0, xO 6 a1, xL a2, xU, xI a4, xU, xU, xU] [r, xL (lshl a2 8)] N Q)) :
    Ru (d + 1) kTape_readRule 22 [xO 7 a0, xO 6 a1, xL a2, xU, xI a4, xU, xU, xU] [] M Q := sx_ok cTape_readRule 7 [5, 22, 33, 48, 52, 65, 80, 95, 101, 107, 115, 135, 138] rfl h
theorem vTape_readRule_33 {d : Nat} {M : xM} {Q : xQ} {a0 a1 a2 a4 s0 s1 : Int}
    (h : Ru (d + 1) kTape_readRule 5 [xO 7 a0, xO 6 a1, xL (lor s1 s0), xU, xI (z32 (a4 + 1)), xU, xU, xU] [] M Q) :
    Ru (d + 1) kTape_readRule 33 [xO 7 a0, xO 6 a1, xL a2, xU, xI a4, xU, xU, xU] [xI s0, xL s1] M Q := sx_ok cTape_readRule 6 [5, 22, 33, 48, 52, 65, 80, 95, 101, 107, 115, 135, 138] rfl h
theorem vTape_readRule_48 {d : Nat} {M : xM} {Q : xQ} {a0 a1 a2 a4 : Int}
    (h : Ru d kTape_nextSign 0 [xO 7 a0] [] M (fun r N => Ru (d + 1) kTape_readRule 52 [xO 7 a0, xO 6 a1, xL a2, xU, xI a4, xU, xU, xU] [r] N Q)) :
    Ru (d + 1) kTape_readRule 48 [xO 7 a0, xO 6 a1, xL a2, xU, xI a4, xU, xU, xU] [] M Q := sx_ok cTape_readRule 3 [5, 22, 33, 48, 52, 65, 80, 95, 101, 107, 115, 135, 138] rfl h
theorem vTape_readRule_52 {d : Nat} {M : xM} {Q : xQ} {a0 a1 a2 a4 s0 : Int}
    (h : Ru d kTape_readNumber 0 [xO 7 a0, xI 32, xU, xU, xU] [] M (fun r N => Ru (d + 1) kTape_readRule 65 [xO 7 a0, xO 6 a1, xL a2, xU, xI (M a0 2), xU, xU, xU] [r] N Q)) :
    Ru (d + 1) kTape_readRule 52 [xO 7 a0, xO 6 a1, xL a2, xU, xI a4, xU, xU, xU] [xI s0] M Q := sx_ok cTape_readRule 8 [5, 22, 33, 48, 52, 65, 80, 95, 101, 107, 115, 135, 138] rfl h
theorem vTape_readRule_65 {d : Nat} {M : xM} {Q : xQ} {a0 a1 a2 a4 s0 : Int}
    (h : (¬ (M a0 3) = 0 → Ru (d + 1) kTape_readRule 95 [xO 7 a0, xO 6 a1, xL a2, xU, xI a4, xI s0, xU, xU] [] M Q) ∧ (¬ (¬ (M a0 3) = 0) → Ru d kRS_widthOf 0 [xI s0] [] M (fun r N => Ru (d + 1) kTape_readRule 80 [xO 7 a0, xO 6 a1, xL a2, xU, xI a4, xI s0, xU, xU] [r, xL a2] N Q))) :
    Ru (d + 1) kTape_readRule 65 [xO 7 a0, xO 6 a1, xL a2, xU, xI a4, xU, xU, xU] [xI s0] M Q := sx_ok cTape_readRule 8 [5, 22, 33, 48, 52, 65, 80, 95, 101, 107, 115, 135, 138] rfl h
theorem vTape_readRule_80 {d : Nat} {M : xM} {Q : xQ} {a0 a1 a2 a4 a5 s0 s1 : Int}
    (h : ((land s1 (z64 (s0 - 1))) = 0 → Ru (d + 1) kTape_readRule 95 [xO 7 a0, xO 6 a1, xL a2, xU, xI a4, xI a5, xU, xU] [] M Q) ∧ (¬ ((land s1 (z64 (s0 - 1))) = 0) → Ru d kTape_fail 0 [xO 7 a0, xI a4, xI 3] [] M (fun r N => Ru (d + 1) kTape_readRule 95 [xO 7 a0, xO 6 a1, xL a2, xU, xI a4, xI a5, xU, xU] [] N Q))) :
    Ru (d + 1) kTape_readRule 80 [xO 7 a0, xO 6 a1, xL a2, xU, xI a4, xI a5, xU, xU] [xL s0, xL s1] M Q := sx_ok cTape_readRule 10 [5, 22, 33, 48, 52, 65, 80, 95, 101, 107, 115, 135, 138] rfl h
theorem vTape_readRule_95 {d : Nat} {M : xM} {Q : xQ} {a0 a1 a2 a4 a5 : Int}
    (h : Ru d kTape_expect 0 [xO 7 a0, xI 61] [] M (fun r N => Ru (d + 1) kTape_readRule 101 [xO 7 a0, xO 6 a1, xL a2, xU, xI a4, xI a5, xU, xU] [] N Q)) :
    Ru (d + 1) kTape_readRule 95 [xO 7 a0, xO 6 a1, xL a2, xU, xI a4, xI a5, xU, xU] [] M Q := sx_ok cTape_readRule 4 [5, 22, 33, 48, 52, 65, 80, 95, 101, 107, 115, 135, 138] rfl h
theorem vTape_readRule_101 {d : Nat} {M : xM} {Q : xQ} {a0 a1 a2 a4 a5 : Int}
    (h : Ru d kTape_readNumber 0 [xO 7 a0, xI 99, xU, xU, xU] [] M (fun r N => Ru (d + 1) kTape_readRule 107 [xO 7 a0, xO 6 a1, xL a2, xU, xI a4, xI a5, xU, xU] [r] N Q)) :
    Ru (d + 1) kTape_readRule 101 [xO 7 a0, xO 6 a1, xL a2, xU, xI a4, xI a5, xU, xU] [] M Q := sx_ok cTape_readRule 4 [5, 22, 33, 48, 52, 65, 80, 95, 101, 107, 115, 135, 138] rfl h
theorem vTape_readRule_107 {d : Nat} {M : xM} {Q : xQ} {a0 a1 a2 a4 a5 s0 : Int}
    (h : Ru d kTape_readNumber 0 [xO 7 a0, xI 9, xU, xU, xU] [] M (fun r N => Ru (d + 1) kTape_readRule 115 [xO 7 a0, xO 6 a1, xL a2, xU, xI a4, xI a5, xI s0, xU] [r] N Q)) :
    Ru (d + 1) kTape_readRule 107 [xO 7 a0, xO 6 a1, xL a2, xU, xI a4, xI a5, xU, xU] [xI s0] M Q := sx_ok cTape_readRule 5 [5, 22, 33, 48, 52, 65, 80, 95, 101, 107, 115, 135, 138] rfl h
theorem vTape_readRule_115 {d : Nat} {M : xM} {Q : xQ} {a0 a1 a2 a4 a5 a6 s0 : Int}
    (h : (¬ (M a0 3) = 0 → Q xU M) ∧ (¬ (¬ (M a0 3) = 0) → Ru d kRS_keyOf 0 [xI a6, xI s0] [] M (fun r N => Ru (d + 1) kTape_readRule 135 [xO 7 a0, xO 6 a1, xL a2, xU, xI a4, xI a5, xI a6, xI s0] [r, xI a5, xL a2, xO 6 a1] N Q))) :
    Ru (d + 1) kTape_readRule 115 [xO 7 a0, xO 6 a1, xL a2, xU, xI a4, xI a5, xI a6, xU] [xI s0] M Q := sx_ok cTape_readRule 11 [5, 22, 33, 48, 52, 65, 80, 95, 101, 107, 115, 135, 138] rfl h
theorem vTape_readRule_135 {d : Nat} {M : xM} {Q : xQ} {a0 a1 a2 a4 a5 a6 a7 s0 s1 s2 s3 : Int}
    (h : Ru d kTable_put 0 [xO 6 s3, xL s2, xU, xI s1, xI s0, xU] [] M (fun r N => Ru (d + 1) kTape_readRule 138 [xO 7 a0, xO 6 a1, xL a2, xU, xI a4, xI a5, xI a6, xI a7] [r] N Q)) :
    Ru (d + 1) kTape_readRule 135 [xO 7 a0, xO 6 a1, xL a2, xU, xI a4, xI a5, xI a6, xI a7] [xI s0, xI s1, xL s2, xO 6 s3] M Q := sx_ok cTape_readRule 2 [5, 22, 33, 48, 52, 65, 80, 95, 101, 107, 115, 135, 138] rfl h
theorem vTape_readRule_138 {d : Nat} {M : xM} {Q : xQ} {a0 a1 a2 a4 a5 a6 a7 s0 : Int}
    (h : Q xU M) :
    Ru (d + 1) kTape_readRule 138 [xO 7 a0, xO 6 a1, xL a2, xU, xI a4, xI a5, xI a6, xI a7] [xI s0] M Q := sx_ok cTape_readRule 3 [5, 22, 33, 48, 52, 65, 80, 95, 101, 107, 115, 135, 138] rfl h
theorem vTape_readStrides_0 {d : Nat} {M : xM} {Q : xQ} {a0 a1 : Int}
    (h : Ru (d + 1) kTape_readStrides 7 [xO 7 a0, xO 6 a1, xI 0, xI 0, xI 0, xU, xU] [] M Q) :
    Ru (d + 1) kTape_readStrides 0 [xO 7 a0, xO 6 a1, xU, xU, xU, xU, xU] [] M Q := sx_ok cTape_readStrides 7 [7, 26, 29, 44, 74, 81, 125] rfl h
theorem vTape_readStrides_7 {d : Nat} {M : xM} {Q : xQ} {a0 a1 a2 a3 a4 : Int} {w5 w6 : xV}
    (h : (400 ≤ a4 → (a2 = 32 → Ru (d + 1) kTape_readStrides 125 [xO 7 a0, xO 6 a1, xI a2, xI a3, xI a4, w5, w6] [] M Q) ∧ (¬ (a2 = 32) → Ru d kTape_fail 0 [xO 7 a0, xI (M a0 2), xI 1] [] M (fun r N => Ru (d + 1) kTape_readStrides 125 [xO 7 a0, xO 6 a1, xI a2, xI a3, xI a4, w5, w6] [] N Q))) ∧ (¬ (400 ≤ a4) → (¬ (M a0 3) = 0 → (a2 = 32 → Ru (d + 1) kTape_readStrides 125 [xO 7 a0, xO 6 a1, xI a2, xI a3, xI a4, w5, w6] [] M Q) ∧ (¬ (a2 = 32) → Ru d kTape_fail 0 [xO 7 a0, xI (M a0 2), xI 1] [] M (fun r N => Ru (d + 1) kTape_readStrides 125 [xO 7 a0, xO 6 a1, xI a2, xI a3, xI a4, w5, w6] [] N Q))) ∧ (¬ (¬ (M a0 3) = 0) → Ru d kTape_nextSign 0 [xO 7 a0] [] M (fun r N => Ru (d + 1) kTape_readStrides 26 [xO 7 a0, xO 6 a1, xI a2, xI a3, xI a4, w5, w6] [r] N Q)))) :
    Ru (d + 1) kTape_readStrides 7 [xO 7 a0, xO 6 a1, xI a2, xI a3, xI a4, w5, w6] [] M Q := sx_ok cTape_readStrides 15 [7, 26, 29, 44, 74, 81, 125] rfl h
theorem vTape_readStrides_26 {d : Nat} {M : xM} {Q : xQ} {a0 a1 a2 a3 a4 s0 : Int} {w5 w6 : xV}
    (h : Ru d kTape_isDigit 0 [xI s0] [] M (fun r N => Ru (d + 1) kTape_readStrides 29 [xO 7 a0, xO 6 a1, xI a2, xI a3, xI a4, w5, w6] [r] N Q)) :
    Ru (d + 1) kTape_readStrides 26 [xO 7 a0, xO 6 a1, xI a2, xI a3, xI a4, w5, w6] [xI s0] M Q := sx_ok cTape_readStrides 2 [7, 26, 29, 44, 74, 81, 125] rfl h
theorem vTape_readStrides_29 {d : Nat} {M : xM} {Q : xQ} {a0 a1 a2 a3 a4 s0 : Int} {w5 w6 : xV}
    (h : (s0 = 0 → (a2 = 32 → Ru (d + 1) kTape_readStrides 125 [xO 7 a0, xO 6 a1, xI a2, xI a3, xI a4, w5, w6] [] M Q) ∧ (¬ (a2 = 32) → Ru d kTape_fail 0 [xO 7 a0, xI (M a0 2), xI 1] [] M (fun r N => Ru (d + 1) kTape_readStrides 125 [xO 7 a0, xO 6 a1, xI a2, xI a3, xI a4, w5, w6] [] N Q))) ∧ (¬ (s0 = 0) → Ru d kTape_readNumber 0 [xO 7 a0, xI 6, xU, xU, xU] [] M (fun r N => Ru (d + 1) kTape_readStrides 44 [xO 7 a0, xO 6 a1, xI a2, xI a3, xI a4, xI (M a0 2), w6] [r] N Q))) :
    Ru (d + 1) kTape_readStrides 29 [xO 7 a0, xO 6 a1, xI a2, xI a3, xI a4, w5, w6] [xI s0] M Q := sx_ok cTape_readStrides 10 [7, 26, 29, 44, 74, 81, 125] rfl h
theorem vTape_readStrides_44 {d : Nat} {M : xM} {Q : xQ} {a0 a1 a2 a3 a4 a5 s0 : Int} {w6 : xV}
    (h : (¬ (M a0 3) = 0 → Ru (d + 1) kTape_readStrides 81 [xO 7 a0, xO 6 a1, xI a2, xI a3, xI a4, xI a5, xI s0] [] M Q) ∧ (¬ (¬ (M a0 3) = 0) → (s0 < 2 → Ru (d + 1) kTape_readStrides 74 [xO 7 a0, xO 6 a1, xI a2, xI a3, xI a4, xI a5, xI s0] [] M Q) ∧ (¬ (s0 < 2) → (32 < (z32 (a2 + s0)) → Ru (d + 1) kTape_readStrides 74 [xO 7 a0, xO 6 a1, xI a2, xI a3, xI a4, xI a5, xI s0] [] M Q) ∧ (¬ (32 < (z32 (a2 + s0))) → (a3 < 16 → Ru (d + 1) kTape_readStrides 81 [xO 7 a0, xO 6 a1, xI a2, xI a3, xI a4, xI a5, xI s0] [] M Q) ∧ (¬ (a3 < 16) → Ru (d + 1) kTape_readStrides 74 [xO 7 a0, xO 6 a1, xI a2, xI a3, xI a4, xI a5, xI s0] [] M Q))))) :
    Ru (d + 1) kTape_readStrides 44 [xO 7 a0, xO 6 a1, xI a2, xI a3, xI a4, xI a5, w6] [xI s0] M Q := sx_ok cTape_readStrides 16 [7, 26, 29, 44, 74, 81, 125] rfl h
theorem vTape_readStrides_74 {d : Nat} {M : xM} {Q : xQ} {a0 a1 a2 a3 a4 a5 a6 : Int}
    (h : Ru d kTape_fail 0 [xO 7 a0, xI a5, xI 2] [] M (fun r N => Ru (d + 1) kTape_readStrides 81 [xO 7 a0, xO 6 a1, xI a2, xI a3, xI a4, xI a5, xI a6] [] N Q)) :
    Ru (d + 1) kTape_readStrides 74 [xO 7 a0, xO 6 a1, xI a2, xI a3, xI a4, xI a5, xI a6] [] M Q := sx_ok cTape_readStrides 5 [7, 26, 29, 44, 74, 81, 125] rfl h
theorem vTape_readStrides_81 {d : Nat} {M : xM} {Q : xQ} {a0 a1 a2 a3 a4 a5 a6 : Int}
    (h : (¬ (M a0 3) = 0 → Ru (d + 1) kTape_readStrides 7 [xO 7 a0, xO 6 a1, xI a2, xI a3, xI (z32 (a4 + 1)), xI a5, xI a6] [] M Q) ∧ (¬ (¬ (M a0 3) = 0) → (0 ≤ a3 ∧ a3 < 16) ∧ (Ru (d + 1) kTape_readStrides 7 [xO 7 a0, xO 6 a1, xI (z32 (a2 + a6)), xI (z32 (a3 + 1)), xI (z32 (a4 + 1)), xI a5, xI a6] [] (up M (a1 + 6) a3 a6) Q))) :
    Ru (d + 1) kTape_readStrides 81 [xO 7 a0, xO 6 a1, xI a2, xI a3, xI a4, xI a5, xI a6] [] M Q := sx_ok cTape_readStrides 16 [7, 26, 29, 44, 74, 81, 125] rfl h
theorem vTape_readStrides_125 {d : Nat} {M : xM} {Q : xQ} {a0 a1 a2 a3 a4 : Int} {w5 w6 : xV}
    (h : Q xU (up M a1 6 a3)) :
    Ru (d + 1) kTape_readStrides 125 [xO 7 a0, xO 6 a1, xI a2, xI a3, xI a4, w5, w6] [] M Q := sx_ok cTape_readStrides 5 [7, 26, 29, 44, 74, 81, 125] rfl h
theorem vTape_readNumber_0 {d : Nat} {M : xM} {Q : xQ} {a0 a1 : Int}
    (h : Ru d kTape_nextSign 0 [xO 7 a0] [] M (fun r N => Ru (d + 1) kTape_readNumber 4 [xO 7 a0, xI a1, xU, xU, xU] [r] N Q)) :
    Ru (d + 1) kTape_readNumber 0 [xO 7 a0, xI a1, xU, xU, xU] [] M Q := sx_ok cTape_readNumber 3 [4, 9, 21, 38, 57, 60, 79, 113] rfl h
theorem vTape_readNumber_4 {d : Nat} {M : xM} {Q : xQ} {a0 a1 s0 : Int}
    (h : Ru d kTape_isDigit 0 [xI s0] [] M (fun r N => Ru (d + 1) kTape_readNumber 9 [xO 7 a0, xI a1, xI s0, xU, xU] [r] N Q)) :
    Ru (d + 1) kTape_readNumber 4 [xO 7 a0, xI a1, xU, xU, xU] [xI s0] M Q := sx_ok cTape_readNumber 4 [4, 9, 21, 38, 57, 60, 79, 113] rfl h
theorem vTape_readNumber_9 {d : Nat} {M : xM} {Q : xQ} {a0 a1 a2 s0 : Int}
    (h : (¬ s0 = 0 → Ru (d + 1) kTape_readNumber 21 [xO 7 a0, xI a1, xI a2, xU, xU] [] M Q) ∧ (¬ (¬ s0 = 0) → Ru d kTape_fail 0 [xO 7 a0, xI (M a0 2), xI 1] [] M (fun r N => Ru (d + 1) kTape_readNumber 21 [xO 7 a0, xI a1, xI a2, xU, xU] [] N Q))) :
    Ru (d + 1) kTape_readNumber 9 [xO 7 a0, xI a1, xI a2, xU, xU] [xI s0] M Q := sx_ok cTape_readNumber 7 [4, 9, 21, 38, 57, 60, 79, 113] rfl h
theorem vTape_readNumber_21 {d : Nat} {M : xM} {Q : xQ} {a0 a1 a2 : Int}
    (h : ((M a0 3) = 0 → Ru (d + 1) kTape_readNumber 38 [xO 7 a0, xI a1, xI a2, xI (M a0 2), xI 0] [] M Q) ∧ (¬ ((M a0 3) = 0) → Q (xI 0) M)) :
    Ru (d + 1) kTape_readNumber 21 [xO 7 a0, xI a1, xI a2, xU, xU] [] M Q := sx_ok cTape_readNumber 9 [4, 9, 21, 38, 57, 60, 79, 113] rfl h
theorem vTape_readNumber_38 {d : Nat} {M : xM} {Q : xQ} {a0 a1 a2 a3 a4 : Int}
    (h : ((M a0 0) ≤ (M a0 2) → (a4 ≤ a1 → Q (xI a4) M) ∧ (¬ (a4 ≤ a1) → Ru d kTape_fail 0 [xO 7 a0, xI a3, xI 2] [] M (fun r N => Ru (d + 1) kTape_readNumber 113 [xO 7 a0, xI a1, xI a2, xI a3, xI a4] [] N Q))) ∧ (¬ ((M a0 0) ≤ (M a0 2)) → Ru d kTape_signAt 0 [xO 7 a0, xI (M a0 2)] [] M (fun r N => Ru (d + 1) kTape_readNumber 57 [xO 7 a0, xI a1, xI a2, xI a3, xI a4] [r] N Q))) :
    Ru (d + 1) kTape_readNumber 38 [xO 7 a0, xI a1, xI a2, xI a3, xI a4] [] M Q := sx_ok cTape_readNumber 13 [4, 9, 21, 38, 57, 60, 79, 113] rfl h
theorem vTape_readNumber_57 {d : Nat} {M : xM} {Q : xQ} {a0 a1 a2 a3 a4 s0 : Int}
    (h : Ru d kTape_isDigit 0 [xI s0] [] M (fun r N => Ru (d + 1) kTape_readNumber 60 [xO 7 a0, xI a1, xI a2, xI a3, xI a4] [r] N Q)) :
    Ru (d + 1) kTape_readNumber 57 [xO 7 a0, xI a1, xI a2, xI a3, xI a4] [xI s0] M Q := sx_ok cTape_readNumber 2 [4, 9, 21, 38, 57, 60, 79, 113] rfl h
theorem vTape_readNumber_60 {d : Nat} {M : xM} {Q : xQ} {a0 a1 a2 a3 a4 s0 : Int}
    (h : (s0 = 0 → (a4 ≤ a1 → Q (xI a4) M) ∧ (¬ (a4 ≤ a1) → Ru d kTape_fail 0 [xO 7 a0, xI a3, xI 2] [] M (fun r N => Ru (d + 1) kTape_readNumber 113 [xO 7 a0, xI a1, xI a2, xI a3, xI a4] [] N Q))) ∧ (¬ (s0 = 0) → Ru d kTape_signAt 0 [xO 7 a0, xI (M a0 2)] [] M (fun r N => Ru (d + 1) kTape_readNumber 79 [xO 7 a0, xI a1, xI a2, xI a3, xI a4] [r, xI (z32 (a4 * 10)), xI 1000] N Q))) :
    Ru (d + 1) kTape_readNumber 60 [xO 7 a0, xI a1, xI a2, xI a3, xI a4] [xI s0] M Q := sx_ok cTape_readNumber 10 [4, 9, 21, 38, 57, 60, 79, 113] rfl h
theorem vTape_readNumber_79 {d : Nat} {M : xM} {Q : xQ} {a0 a1 a2 a3 a4 s0 s1 s2 : Int}
    (h : Ru (d + 1) kTape_readNumber 38 [xO 7 a0, xI a1, xI a2, xI a3, xI (mn s2 (z32 ((z32 (s1 + s0)) - 48)))] [] (up M a0 2 (z32 ((M a0 2) + 1))) Q) :
    Ru (d + 1) kTape_readNumber 79 [xO 7 a0, xI a1, xI a2, xI a3, xI a4] [xI s0, xI s1, xI s2] M Q := sx_ok cTape_readNumber 13 [4, 9, 21, 38, 57, 60, 79, 113] rfl h
theorem vTape_readNumber_113 {d : Nat} {M : xM} {Q : xQ} {a0 a1 a2 a3 a4 : Int}
    (h : Q (xI 0) M) :
    Ru (d + 1) kTape_readNumber 113 [xO 7 a0, xI a1, xI a2, xI a3, xI a4] [] M Q := sx_ok cTape_readNumber 3 [4, 9, 21, 38, 57, 60, 79, 113] rfl h
theorem vTape_expect_0 {d : Nat} {M : xM} {Q : xQ} {a0 a1 : Int}
    (h : ((M a0 3) = 0 → Ru d kTape_nextSign 0 [xO 7 a0] [] M (fun r N => Ru (d + 1) kTape_expect 12 [xO 7 a0, xI a1] [r] N Q)) ∧ (¬ ((M a0 3) = 0) → Q xU M)) :
    Ru (d + 1) kTape_expect 0 [xO 7 a0, xI a1] [] M Q := sx_ok cTape_expect 6 [12, 25] rfl h
theorem vTape_expect_12 {d : Nat} {M : xM} {Q : xQ} {a0 a1 s0 : Int}
    (h : (s0 = a1 → Q xU (up M a0 2 (z32 ((M a0 2) + 1)))) ∧ (¬ (s0 = a1) → Ru d kTape_fail 0 [xO 7 a0, xI (M a0 2), xI 1] [] M (fun r N => Ru (d + 1) kTape_expect 25 [xO 7 a0, xI a1] [] N Q))) :
    Ru (d + 1) kTape_expect 12 [xO 7 a0, xI a1] [xI s0] M Q := sx_ok cTape_expect 10 [12, 25] rfl h
theorem vTape_expect_25 {d : Nat} {M : xM} {Q : xQ} {a0 a1 : Int}
    (h : Q xU M) :
    Ru (d + 1) kTape_expect 25 [xO 7 a0, xI a1] [] M Q := sx_ok cTape_expect 3 [12, 25] rfl h
theorem vTape_isStrides_0 {d : Nat} {M : xM} {Q : xQ} {a0 : Int}
    (h : Ru (d + 1) kTape_isStrides 2 [xO 7 a0, xI 0] [] M Q) :
    Ru (d + 1) kTape_isStrides 0 [xO 7 a0, xU] [] M Q := sx_ok cTape_isStrides 3 [2, 21, 52] rfl h
theorem vTape_isStrides_2 {d : Nat} {M : xM} {Q : xQ} {a0 a1 : Int}
    (h : (7 ≤ a1 → Ru d kTape_signAt 0 [xO 7 a0, xI (z32 ((M a0 2) + 7))] [] M (fun r N => Ru (d + 1) kTape_isStrides 52 [xO 7 a0, xI a1] [r] N Q)) ∧ (¬ (7 ≤ a1) → Ru d kTape_signAt 0 [xO 7 a0, xI (z32 ((M a0 2) + a1))] [] M (fun r N => Ru (d + 1) kTape_isStrides 21 [xO 7 a0, xI a1] [r] N Q))) :
    Ru (d + 1) kTape_isStrides 2 [xO 7 a0, xI a1] [] M Q := sx_ok cTape_isStrides 12 [2, 21, 52] rfl h
theorem vTape_isStrides_21 {d : Nat} {M : xM} {Q : xQ} {a0 a1 s0 : Int}
    (h : (0 ≤ a1 ∧ a1 < 7) ∧ ((s0 = (strv a1) → Ru (d + 1) kTape_isStrides 2 [xO 7 a0, xI (z32 (a1 + 1))] [] M Q) ∧ (¬ (s0 = (strv a1)) → Q (xI 0) M))) :
    Ru (d + 1) kTape_isStrides 21 [xO 7 a0, xI a1] [xI s0] M Q := sx_ok cTape_isStrides 7 [2, 21, 52] rfl h
theorem vTape_isStrides_52 {d : Nat} {M : xM} {Q : xQ} {a0 a1 s0 : Int}
    (h : (s0 < 97 → Q (xI 1) M) ∧ (¬ (s0 < 97) → (s0 ≤ 122 → Q (xI 0) M) ∧ (¬ (s0 ≤ 122) → Q (xI 1) M))) :
    Ru (d + 1) kTape_isStrides 52 [xO 7 a0, xI a1] [xI s0] M Q := sx_ok cTape_isStrides 11 [2, 21, 52] rfl h
theorem vTape_atEnd_0 {d : Nat} {M : xM} {Q : xQ} {a0 : Int}
    (h : Ru d kTape_nextSign 0 [xO 7 a0] [] M (fun r N => Ru (d + 1) kTape_atEnd 4 [xO 7 a0] [r] N Q)) :
    Ru (d + 1) kTape_atEnd 0 [xO 7 a0] [] M Q := sx_ok cTape_atEnd 3 [4] rfl h
theorem vTape_atEnd_4 {d : Nat} {M : xM} {Q : xQ} {a0 s0 : Int}
    (h : (¬ s0 = (-1) → Q (xI 0) M) ∧ (¬ (¬ s0 = (-1)) → Q (xI 1) M)) :
    Ru (d + 1) kTape_atEnd 4 [xO 7 a0] [xI s0] M Q := sx_ok cTape_atEnd 6 [4] rfl h
theorem vTape_nextSign_0 {d : Nat} {M : xM} {Q : xQ} {a0 : Int}
    (h : ((M a0 0) ≤ (M a0 2) → Ru d kTape_signAt 0 [xO 7 a0, xI (M a0 2)] [] M (fun r N => Ru (d + 1) kTape_nextSign 45 [xO 7 a0] [r] N Q)) ∧ (¬ ((M a0 0) ≤ (M a0 2)) → Ru d kTape_signAt 0 [xO 7 a0, xI (M a0 2)] [] M (fun r N => Ru (d + 1) kTape_nextSign 19 [xO 7 a0] [r] N Q))) :
    Ru (d + 1) kTape_nextSign 0 [xO 7 a0] [] M Q := sx_ok cTape_nextSign 10 [0, 19, 45] rfl h
theorem vTape_nextSign_19 {d : Nat} {M : xM} {Q : xQ} {a0 s0 : Int}
    (h : (¬ s0 = 32 → Ru d kTape_signAt 0 [xO 7 a0, xI (M a0 2)] [] M (fun r N => Ru (d + 1) kTape_nextSign 45 [xO 7 a0] [r] N Q)) ∧ (¬ (¬ s0 = 32) → Ru (d + 1) kTape_nextSign 0 [xO 7 a0] [] (up M a0 2 (z32 ((M a0 2) + 1))) Q)) :
    Ru (d + 1) kTape_nextSign 19 [xO 7 a0] [xI s0] M Q := sx_ok cTape_nextSign 10 [0, 19, 45] rfl h
theorem vTape_nextSign_45 {d : Nat} {M : xM} {Q : xQ} {a0 s0 : Int}
    (h : Q (xI s0) M) :
    Ru (d + 1) kTape_nextSign 45 [xO 7 a0] [xI s0] M Q := sx_ok cTape_nextSign 2 [0, 19, 45] rfl h
theorem vTape_signAt_0 {d : Nat} {M : xM} {Q : xQ} {a0 a1 : Int}
    (h : (a1 < 0 → Q (xI (-1)) M) ∧ (¬ (a1 < 0) → ((M a0 0) ≤ a1 → Q (xI (-1)) M) ∧ (¬ ((M a0 0) ≤ a1) → (400 ≤ a1 → Q (xI (-1)) M) ∧ (¬ (400 ≤ a1) → (0 ≤ a1 ∧ a1 < 400) ∧ (Q (xI (M (a0 + 1) a1)) M))))) :
    Ru d kTape_signAt 0 [xO 7 a0, xI a1] [] M Q := sx_ok cTape_signAt 16 [] rfl h
theorem vTape_isDigit_0 {d : Nat} {M : xM} {Q : xQ} {a0 : Int}
    (h : (a0 < 48 → Q (xI 0) M) ∧ (¬ (a0 < 48) → (57 < a0 → Q (xI 0) M) ∧ (¬ (57 < a0) → Q (xI 1) M))) :
    Ru d kTape_isDigit 0 [xI a0] [] M Q := sx_ok cTape_isDigit 10 [] rfl h
theorem vTape_fail_0 {d : Nat} {M : xM} {Q : xQ} {a0 a1 a2 : Int}
    (h : (¬ (M a0 3) = 0 → Q xU M) ∧ (¬ (¬ (M a0 3) = 0) → Q xU (up M a0 3 (z32 ((z32 (8 * a1)) + a2))))) :
    Ru d kTape_fail 0 [xO 7 a0, xI a1, xI a2] [] M Q := sx_ok cTape_fail 12 [] rfl h
