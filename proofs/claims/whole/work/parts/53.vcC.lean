theorem vMo_isIn_0 {d : Nat} {M : xM} {Q : xQ} {a0 a2 a4 : Int}
    (h : (a0 < a2 → Q (xI 0) M) ∧ (¬ (a0 < a2) → (a4 < a0 → Q (xI 0) M) ∧ (¬ (a4 < a0) → Q (xI 1) M))) :
    Ru d kMo_isIn 0 [xL a0, xU, xL a2, xU, xL a4, xU] [] M Q := sx_ok cMo_isIn 10 [] rfl h
theorem vMo_startsAnew_0 {d : Nat} {M : xM} {Q : xQ} {a0 : Int}
    (h : Ru d kMo_startsAnew 2 [xO 9 a0, xI 0] [] M Q) :
    Ru d kMo_startsAnew 0 [xO 9 a0, xU] [] M Q := sx_ok cMo_startsAnew 3 [2, 24, 57] rfl h
theorem vMo_startsAnew_2 {d : Nat} {M : xM} {Q : xQ} {a0 a1 : Int}
    (h : (259 ≤ a1 → Ru d kMo_startsAnew 24 [xO 9 a0, xI 0] [] M Q) ∧ (¬ (259 ≤ a1) → (0 ≤ a1 ∧ a1 < 259) ∧ (Ru d kMo_startsAnew 2 [xO 9 a0, xI (z32 (a1 + 1))] [] (up M (a0 + 1) a1 0) Q))) :
    Ru d kMo_startsAnew 2 [xO 9 a0, xI a1] [] M Q := sx_ok cMo_startsAnew 11 [2, 24, 57] rfl h
theorem vMo_startsAnew_24 {d : Nat} {M : xM} {Q : xQ} {a0 a1 : Int}
    (h : (60 < a1 → (0 ≤ (1 : Int) ∧ (1 : Int) < 259) ∧ (Ru d kMo_startsAnew 57 [xO 9 a0, xI 0] [] (up M (a0 + 1) 1 8) Q)) ∧ (¬ (60 < a1) → (0 ≤ (z32 (182 + a1)) ∧ (z32 (182 + a1)) < 259) ∧ (Ru d kMo_startsAnew 24 [xO 9 a0, xI (z32 (a1 + 1))] [] (up M (a0 + 1) (z32 (182 + a1)) (-1)) Q))) :
    Ru d kMo_startsAnew 24 [xO 9 a0, xI a1] [] M Q := sx_ok cMo_startsAnew 13 [2, 24, 57] rfl h
theorem vMo_startsAnew_57 {d : Nat} {M : xM} {Q : xQ} {a0 a1 : Int}
    (h : (8 ≤ a1 → Q xU M) ∧ (¬ (8 ≤ a1) → (0 ≤ (z32 (243 + a1)) ∧ (z32 (243 + a1)) < 259) ∧ (Ru d kMo_startsAnew 57 [xO 9 a0, xI (z32 (a1 + 1))] [] (up M (a0 + 1) (z32 (243 + a1)) 4) Q))) :
    Ru d kMo_startsAnew 57 [xO 9 a0, xI a1] [] M Q := sx_ok cMo_startsAnew 13 [2, 24, 57] rfl h
theorem vMo_unsigned_0 {d : Nat} {M : xM} {Q : xQ} {a0 : Int}
    (h : Q (xL (land a0 4294967295)) M) :
    Ru d kMo_unsigned 0 [xI a0] [] M Q := sx_ok cMo_unsigned 6 [] rfl h
theorem vMo_sizeOf_0 {d : Nat} {M : xM} {Q : xQ} {a0 : Int}
    (h : Q (xL (lshl 1 (z32 (32 - a0)))) M) :
    Ru d kMo_sizeOf 0 [xI a0] [] M Q := sx_ok cMo_sizeOf 7 [] rfl h
theorem vMo_isBeginning_0 {d : Nat} {M : xM} {Q : xQ} {a0 a1 : Int}
    (h : Ru d kMo_isIn 0 [xL a1, xU, xL 0, xU, xL 32, xU] [] M (fun r N => Ru (d + 1) kMo_isBeginning 9 [xI a0, xI a1] [r] N Q)) :
    Ru (d + 1) kMo_isBeginning 0 [xI a0, xI a1] [] M Q := sx_ok cMo_isBeginning 6 [9, 16, 20] rfl h
theorem vMo_isBeginning_9 {d : Nat} {M : xM} {Q : xQ} {a0 a1 s0 : Int}
    (h : (s0 = 0 → Q (xI 0) M) ∧ (¬ (s0 = 0) → Ru d kMo_unsigned 0 [xI a0] [] M (fun r N => Ru (d + 1) kMo_isBeginning 16 [xI a0, xI a1] [r] N Q))) :
    Ru (d + 1) kMo_isBeginning 9 [xI a0, xI a1] [xI s0] M Q := sx_ok cMo_isBeginning 4 [9, 16, 20] rfl h
theorem vMo_isBeginning_16 {d : Nat} {M : xM} {Q : xQ} {a0 a1 s0 : Int}
    (h : Ru d kMo_sizeOf 0 [xI a1] [] M (fun r N => Ru (d + 1) kMo_isBeginning 20 [xI a0, xI a1] [r, xL s0] N Q)) :
    Ru (d + 1) kMo_isBeginning 16 [xI a0, xI a1] [xL s0] M Q := sx_ok cMo_isBeginning 3 [9, 16, 20] rfl h
theorem vMo_isBeginning_20 {d : Nat} {M : xM} {Q : xQ} {a0 a1 s0 s1 : Int}
    (h : ¬ s0 = 0 ∧ ((¬ (lrem s1 s0) = 0 → Q (xI 0) M) ∧ (¬ (¬ (lrem s1 s0) = 0) → Q (xI 1) M))) :
    Ru (d + 1) kMo_isBeginning 20 [xI a0, xI a1] [xL s0, xL s1] M Q := sx_ok cMo_isBeginning 7 [9, 16, 20] rfl h
theorem vMo_isWay_0 {d : Nat} {M : xM} {Q : xQ} {a0 a1 : Int}
    (h : Ru d kMo_isIn 0 [xL a0, xU, xL 0, xU, xL 99, xU] [] M (fun r N => Ru (d + 1) kMo_isWay 9 [xI a0, xI a1] [r] N Q)) :
    Ru (d + 1) kMo_isWay 0 [xI a0, xI a1] [] M Q := sx_ok cMo_isWay 6 [9, 21] rfl h
theorem vMo_isWay_9 {d : Nat} {M : xM} {Q : xQ} {a0 a1 s0 : Int}
    (h : (s0 = 0 → Q (xI 0) M) ∧ (¬ (s0 = 0) → Ru d kMo_isIn 0 [xL a1, xU, xL 0, xU, xL 9, xU] [] M (fun r N => Ru (d + 1) kMo_isWay 21 [xI a0, xI a1] [r] N Q))) :
    Ru (d + 1) kMo_isWay 9 [xI a0, xI a1] [xI s0] M Q := sx_ok cMo_isWay 7 [9, 21] rfl h
theorem vMo_isWay_21 {d : Nat} {M : xM} {Q : xQ} {a0 a1 s0 : Int}
    (h : (s0 = 0 → Q (xI 0) M) ∧ (¬ (s0 = 0) → Q (xI 1) M)) :
    Ru (d + 1) kMo_isWay 21 [xI a0, xI a1] [xI s0] M Q := sx_ok cMo_isWay 5 [9, 21] rfl h
theorem vMo_valueOf_0 {d : Nat} {M : xM} {Q : xQ} {a0 a1 : Int}
    (h : (0 ≤ (z32 (2 + a1)) ∧ (z32 (2 + a1)) < 259) ∧ (Ru d kMo_unsigned 0 [xI (M (a0 + 1) (z32 (2 + a1)))] [] M (fun r N => Ru (d + 1) kMo_valueOf 11 [xO 9 a0, xI a1] [r] N Q))) :
    Ru (d + 1) kMo_valueOf 0 [xO 9 a0, xI a1] [] M Q := sx_ok cMo_valueOf 8 [11] rfl h
theorem vMo_valueOf_11 {d : Nat} {M : xM} {Q : xQ} {a0 a1 s0 : Int}
    (h : Q (xL s0) M) :
    Ru (d + 1) kMo_valueOf 11 [xO 9 a0, xI a1] [xL s0] M Q := sx_ok cMo_valueOf 2 [11] rfl h
theorem vMo_find_0 {d : Nat} {M : xM} {Q : xQ} {a0 a1 a3 : Int}
    (h : Ru (d + 1) kMo_find 3 [xO 9 a0, xL a1, xU, xI a3, xI 0] [] M Q) :
    Ru (d + 1) kMo_find 0 [xO 9 a0, xL a1, xU, xI a3, xU] [] M Q := sx_ok cMo_find 3 [3, 20] rfl h
theorem vMo_find_3 {d : Nat} {M : xM} {Q : xQ} {a0 a1 a3 a4 : Int}
    (h : (0 ≤ (0 : Int) ∧ (0 : Int) < 259) ∧ (((M (a0 + 1) 0) ≤ a4 → Q (xI (-1)) M) ∧ (¬ ((M (a0 + 1) 0) ≤ a4) → Ru d kMo_valueOf 0 [xO 9 a0, xI a4] [] M (fun r N => Ru (d + 1) kMo_find 20 [xO 9 a0, xL a1, xU, xI a3, xI a4] [r] N Q)))) :
    Ru (d + 1) kMo_find 3 [xO 9 a0, xL a1, xU, xI a3, xI a4] [] M Q := sx_ok cMo_find 10 [3, 20] rfl h
theorem vMo_find_20 {d : Nat} {M : xM} {Q : xQ} {a0 a1 a3 a4 s0 : Int}
    (h : (¬ s0 = a1 → Ru (d + 1) kMo_find 3 [xO 9 a0, xL a1, xU, xI a3, xI (z32 (a4 + 1))] [] M Q) ∧ (¬ (¬ s0 = a1) → (0 ≤ (z32 (62 + a4)) ∧ (z32 (62 + a4)) < 259) ∧ ((¬ (M (a0 + 1) (z32 (62 + a4))) = a3 → Ru (d + 1) kMo_find 3 [xO 9 a0, xL a1, xU, xI a3, xI (z32 (a4 + 1))] [] M Q) ∧ (¬ (¬ (M (a0 + 1) (z32 (62 + a4))) = a3) → Q (xI a4) M)))) :
    Ru (d + 1) kMo_find 20 [xO 9 a0, xL a1, xU, xI a3, xI a4] [xL s0] M Q := sx_ok cMo_find 13 [3, 20] rfl h
theorem vMo_rulesOf_0 {d : Nat} {M : xM} {Q : xQ} {a0 a1 : Int}
    (h : Ru d kMo_rulesOf 4 [xO 9 a0, xI a1, xI 0, xI 0] [] M Q) :
    Ru d kMo_rulesOf 0 [xO 9 a0, xI a1, xU, xU] [] M Q := sx_ok cMo_rulesOf 5 [4] rfl h
theorem vMo_rulesOf_4 {d : Nat} {M : xM} {Q : xQ} {a0 a1 a2 a3 : Int}
    (h : (0 ≤ (0 : Int) ∧ (0 : Int) < 259) ∧ (((M (a0 + 1) 0) ≤ a3 → Q (xI a2) M) ∧ (¬ ((M (a0 + 1) 0) ≤ a3) → (0 ≤ (z32 (122 + a3)) ∧ (z32 (122 + a3)) < 259) ∧ ((¬ (M (a0 + 1) (z32 (122 + a3))) = a1 → Ru d kMo_rulesOf 4 [xO 9 a0, xI a1, xI (z32 (a2 + 0)), xI (z32 (a3 + 1))] [] M Q) ∧ (¬ (¬ (M (a0 + 1) (z32 (122 + a3))) = a1) → Ru d kMo_rulesOf 4 [xO 9 a0, xI a1, xI (z32 (a2 + 1)), xI (z32 (a3 + 1))] [] M Q))))) :
    Ru d kMo_rulesOf 4 [xO 9 a0, xI a1, xI a2, xI a3] [] M Q := sx_ok cMo_rulesOf 22 [4] rfl h
theorem vMo_hopOf_0 {d : Nat} {M : xM} {Q : xQ} {a0 a1 : Int}
    (h : Ru d kMo_hopOf 2 [xO 9 a0, xI a1, xI 0] [] M Q) :
    Ru d kMo_hopOf 0 [xO 9 a0, xI a1, xU] [] M Q := sx_ok cMo_hopOf 3 [2] rfl h
theorem vMo_hopOf_2 {d : Nat} {M : xM} {Q : xQ} {a0 a1 a2 : Int}
    (h : (60 < a2 → Q (xI (-1)) M) ∧ (¬ (60 < a2) → (0 ≤ (z32 (182 + a2)) ∧ (z32 (182 + a2)) < 259) ∧ ((¬ (M (a0 + 1) (z32 (182 + a2))) = a1 → Ru d kMo_hopOf 2 [xO 9 a0, xI a1, xI (z32 (a2 + 1))] [] M Q) ∧ (¬ (¬ (M (a0 + 1) (z32 (182 + a2))) = a1) → Q (xI a2) M)))) :
    Ru d kMo_hopOf 2 [xO 9 a0, xI a1, xI a2] [] M Q := sx_ok cMo_hopOf 14 [2] rfl h
theorem vMo_hopFor_0 {d : Nat} {M : xM} {Q : xQ} {a0 a1 : Int}
    (h : Ru d kMo_hopOf 0 [xO 9 a0, xI a1, xU] [] M (fun r N => Ru (d + 1) kMo_hopFor 5 [xO 9 a0, xI a1, xU] [r] N Q)) :
    Ru (d + 1) kMo_hopFor 0 [xO 9 a0, xI a1, xU] [] M Q := sx_ok cMo_hopFor 4 [5, 18] rfl h
theorem vMo_hopFor_5 {d : Nat} {M : xM} {Q : xQ} {a0 a1 s0 : Int}
    (h : (s0 = (-1) → Ru d kMo_hopOf 0 [xO 9 a0, xI (-1), xU] [] M (fun r N => Ru (d + 1) kMo_hopFor 18 [xO 9 a0, xI a1, xI s0] [r] N Q)) ∧ (¬ (s0 = (-1)) → Q (xI s0) M)) :
    Ru (d + 1) kMo_hopFor 5 [xO 9 a0, xI a1, xU] [xI s0] M Q := sx_ok cMo_hopFor 8 [5, 18] rfl h
theorem vMo_hopFor_18 {d : Nat} {M : xM} {Q : xQ} {a0 a1 a2 s0 : Int}
    (h : (0 ≤ (z32 (182 + s0)) ∧ (z32 (182 + s0)) < 259) ∧ (Q (xI s0) (up M (a0 + 1) (z32 (182 + s0)) a1))) :
    Ru (d + 1) kMo_hopFor 18 [xO 9 a0, xI a1, xI a2] [xI s0] M Q := sx_ok cMo_hopFor 11 [5, 18] rfl h
theorem vMo_frees_0 {d : Nat} {M : xM} {Q : xQ} {a0 a1 : Int}
    (h : Ru d kMo_rulesOf 0 [xO 9 a0, xI a1, xU, xU] [] M (fun r N => Ru (d + 1) kMo_frees 5 [xO 9 a0, xI a1] [r] N Q)) :
    Ru (d + 1) kMo_frees 0 [xO 9 a0, xI a1] [] M Q := sx_ok cMo_frees 4 [5] rfl h
theorem vMo_frees_5 {d : Nat} {M : xM} {Q : xQ} {a0 a1 s0 : Int}
    (h : (¬ s0 = 0 → Q xU M) ∧ (¬ (¬ s0 = 0) → (0 ≤ (z32 (182 + a1)) ∧ (z32 (182 + a1)) < 259) ∧ (Q xU (up M (a0 + 1) (z32 (182 + a1)) (-1))))) :
    Ru (d + 1) kMo_frees 5 [xO 9 a0, xI a1] [xI s0] M Q := sx_ok cMo_frees 10 [5] rfl h
theorem vMo_isAhead_0 {d : Nat} {M : xM} {Q : xQ} {a0 a1 a2 a4 : Int}
    (h : Ru d kMo_valueOf 0 [xO 9 a0, xI a1] [] M (fun r N => Ru (d + 1) kMo_isAhead 5 [xO 9 a0, xI a1, xL a2, xU, xI a4] [r] N Q)) :
    Ru (d + 1) kMo_isAhead 0 [xO 9 a0, xI a1, xL a2, xU, xI a4] [] M Q := sx_ok cMo_isAhead 4 [5, 15] rfl h
theorem vMo_isAhead_5 {d : Nat} {M : xM} {Q : xQ} {a0 a1 a2 a4 s0 : Int}
    (h : (s0 < a2 → Q (xI 1) M) ∧ (¬ (s0 < a2) → Ru d kMo_valueOf 0 [xO 9 a0, xI a1] [] M (fun r N => Ru (d + 1) kMo_isAhead 15 [xO 9 a0, xI a1, xL a2, xU, xI a4] [r] N Q))) :
    Ru (d + 1) kMo_isAhead 5 [xO 9 a0, xI a1, xL a2, xU, xI a4] [xL s0] M Q := sx_ok cMo_isAhead 6 [5, 15] rfl h
theorem vMo_isAhead_15 {d : Nat} {M : xM} {Q : xQ} {a0 a1 a2 a4 s0 : Int}
    (h : (¬ s0 = a2 → Q (xI 0) M) ∧ (¬ (¬ s0 = a2) → (0 ≤ (z32 (62 + a1)) ∧ (z32 (62 + a1)) < 259) ∧ ((a4 ≤ (M (a0 + 1) (z32 (62 + a1))) → Q (xI 0) M) ∧ (¬ (a4 ≤ (M (a0 + 1) (z32 (62 + a1)))) → Q (xI 1) M)))) :
    Ru (d + 1) kMo_isAhead 15 [xO 9 a0, xI a1, xL a2, xU, xI a4] [xL s0] M Q := sx_ok cMo_isAhead 14 [5, 15] rfl h
theorem vMo_copies_0 {d : Nat} {M : xM} {Q : xQ} {a0 a1 a2 : Int}
    (h : (0 ≤ (z32 (2 + a2)) ∧ (z32 (2 + a2)) < 259) ∧ ((0 ≤ (z32 (2 + a1)) ∧ (z32 (2 + a1)) < 259) ∧ ((0 ≤ (z32 (62 + a2)) ∧ (z32 (62 + a2)) < 259) ∧ ((0 ≤ (z32 (62 + a1)) ∧ (z32 (62 + a1)) < 259) ∧ ((0 ≤ (z32 (122 + a2)) ∧ (z32 (122 + a2)) < 259) ∧ ((0 ≤ (z32 (122 + a1)) ∧ (z32 (122 + a1)) < 259) ∧ (Q xU (up (up (up M (a0 + 1) (z32 (2 + a1)) (M (a0 + 1) (z32 (2 + a2)))) (a0 + 1) (z32 (62 + a1)) ((up M (a0 + 1) (z32 (2 + a1)) (M (a0 + 1) (z32 (2 + a2)))) (a0 + 1) (z32 (62 + a2)))) (a0 + 1) (z32 (122 + a1)) ((up (up M (a0 + 1) (z32 (2 + a1)) (M (a0 + 1) (z32 (2 + a2)))) (a0 + 1) (z32 (62 + a1)) ((up M (a0 + 1) (z32 (2 + a1)) (M (a0 + 1) (z32 (2 + a2)))) (a0 + 1) (z32 (62 + a2)))) (a0 + 1) (z32 (122 + a2))))))))))) :
    Ru d kMo_copies 0 [xO 9 a0, xI a1, xI a2] [] M Q := sx_ok cMo_copies 38 [] rfl h
theorem vMo_puts_0 {d : Nat} {M : xM} {Q : xQ} {a0 a1 a3 a4 : Int}
    (h : Ru d kMo_find 0 [xO 9 a0, xL a1, xU, xI a3, xU] [] M (fun r N => Ru (d + 1) kMo_puts 6 [xO 9 a0, xL a1, xU, xI a3, xI a4, xU, xU] [r] N Q)) :
    Ru (d + 1) kMo_puts 0 [xO 9 a0, xL a1, xU, xI a3, xI a4, xU, xU] [] M Q := sx_ok cMo_puts 5 [6, 22, 37, 50, 56, 150, 165] rfl h
theorem vMo_puts_6 {d : Nat} {M : xM} {Q : xQ} {a0 a1 a3 a4 s0 : Int}
    (h : (¬ s0 = (-1) → (0 ≤ (z32 (122 + s0)) ∧ (z32 (122 + s0)) < 259) ∧ ((0 ≤ (z32 (182 + (M (a0 + 1) (z32 (122 + s0))))) ∧ (z32 (182 + (M (a0 + 1) (z32 (122 + s0))))) < 259) ∧ ((¬ (M (a0 + 1) (z32 (182 + (M (a0 + 1) (z32 (122 + s0)))))) = a4 → (0 ≤ (z32 (122 + s0)) ∧ (z32 (122 + s0)) < 259) ∧ (Ru d kMo_frees 0 [xO 9 a0, xI (M (a0 + 1) (z32 (122 + s0)))] [] (up M (a0 + 1) (z32 (122 + s0)) (-1)) (fun r N => Ru (d + 1) kMo_puts 150 [xO 9 a0, xL a1, xU, xI a3, xI a4, xI s0, xI (M (a0 + 1) (z32 (122 + s0)))] [] N Q))) ∧ (¬ (¬ (M (a0 + 1) (z32 (182 + (M (a0 + 1) (z32 (122 + s0)))))) = a4) → Q (xI s0) M)))) ∧ (¬ (¬ s0 = (-1)) → (0 ≤ (0 : Int) ∧ (0 : Int) < 259) ∧ (Ru (d + 1) kMo_puts 22 [xO 9 a0, xL a1, xU, xI a3, xI a4, xI (M (a0 + 1) 0), xU] [] M Q))) :
    Ru (d + 1) kMo_puts 6 [xO 9 a0, xL a1, xU, xI a3, xI a4, xU, xU] [xI s0] M Q := sx_ok cMo_puts 30 [6, 22, 37, 50, 56, 150, 165] rfl h
theorem vMo_puts_22 {d : Nat} {M : xM} {Q : xQ} {a0 a1 a3 a4 a5 : Int}
    (h : (a5 ≤ 0 → Ru (d + 1) kMo_puts 56 [xO 9 a0, xL a1, xU, xI a3, xI a4, xI a5, xU] [] M Q) ∧ (¬ (a5 ≤ 0) → Ru d kMo_isAhead 0 [xO 9 a0, xI (z32 (a5 - 1)), xL a1, xU, xI a3] [] M (fun r N => Ru (d + 1) kMo_puts 37 [xO 9 a0, xL a1, xU, xI a3, xI a4, xI a5, xU] [r] N Q))) :
    Ru (d + 1) kMo_puts 22 [xO 9 a0, xL a1, xU, xI a3, xI a4, xI a5, xU] [] M Q := sx_ok cMo_puts 10 [6, 22, 37, 50, 56, 150, 165] rfl h
theorem vMo_puts_37 {d : Nat} {M : xM} {Q : xQ} {a0 a1 a3 a4 a5 s0 : Int}
    (h : (¬ s0 = 0 → Ru (d + 1) kMo_puts 56 [xO 9 a0, xL a1, xU, xI a3, xI a4, xI a5, xU] [] M Q) ∧ (¬ (¬ s0 = 0) → Ru d kMo_copies 0 [xO 9 a0, xI a5, xI (z32 (a5 - 1))] [] M (fun r N => Ru (d + 1) kMo_puts 50 [xO 9 a0, xL a1, xU, xI a3, xI a4, xI a5, xU] [] N Q))) :
    Ru (d + 1) kMo_puts 37 [xO 9 a0, xL a1, xU, xI a3, xI a4, xI a5, xU] [xI s0] M Q := sx_ok cMo_puts 8 [6, 22, 37, 50, 56, 150, 165] rfl h
theorem vMo_puts_50 {d : Nat} {M : xM} {Q : xQ} {a0 a1 a3 a4 a5 : Int}
    (h : Ru (d + 1) kMo_puts 22 [xO 9 a0, xL a1, xU, xI a3, xI a4, xI (z32 (a5 + (-1))), xU] [] M Q) :
    Ru (d + 1) kMo_puts 50 [xO 9 a0, xL a1, xU, xI a3, xI a4, xI a5, xU] [] M Q := sx_ok cMo_puts 3 [6, 22, 37, 50, 56, 150, 165] rfl h
theorem vMo_puts_56 {d : Nat} {M : xM} {Q : xQ} {a0 a1 a3 a4 a5 : Int}
    (h : (0 ≤ (0 : Int) ∧ (0 : Int) < 259) ∧ ((0 ≤ (0 : Int) ∧ (0 : Int) < 259) ∧ ((0 ≤ (z32 (2 + a5)) ∧ (z32 (2 + a5)) < 259) ∧ ((0 ≤ (z32 (62 + a5)) ∧ (z32 (62 + a5)) < 259) ∧ ((0 ≤ (z32 (122 + a5)) ∧ (z32 (122 + a5)) < 259) ∧ (Ru (d + 1) kMo_puts 150 [xO 9 a0, xL a1, xU, xI a3, xI a4, xI a5, xU] [] (up (up (up (up M (a0 + 1) 0 (z32 ((M (a0 + 1) 0) + 1))) (a0 + 1) (z32 (2 + a5)) (z32 a1)) (a0 + 1) (z32 (62 + a5)) a3) (a0 + 1) (z32 (122 + a5)) (-1)) Q)))))) :
    Ru (d + 1) kMo_puts 56 [xO 9 a0, xL a1, xU, xI a3, xI a4, xI a5, xU] [] M Q := sx_ok cMo_puts 32 [6, 22, 37, 50, 56, 150, 165] rfl h
theorem vMo_puts_150 {d : Nat} {M : xM} {Q : xQ} {a0 a1 a3 a4 a5 : Int} {w6 : xV}
    (h : Ru d kMo_hopFor 0 [xO 9 a0, xI a4, xU] [] M (fun r N => Ru (d + 1) kMo_puts 165 [xO 9 a0, xL a1, xU, xI a3, xI a4, xI a5, w6] [r, xI (z32 (122 + a5)), xAI 259 (a0 + 1)] N Q)) :
    Ru (d + 1) kMo_puts 150 [xO 9 a0, xL a1, xU, xI a3, xI a4, xI a5, w6] [] M Q := sx_ok cMo_puts 9 [6, 22, 37, 50, 56, 150, 165] rfl h
theorem vMo_puts_165 {d : Nat} {M : xM} {Q : xQ} {a0 a1 a3 a4 a5 s0 s1 s2 : Int} {w6 : xV}
    (h : (0 ≤ s1 ∧ s1 < 259) ∧ (Q (xI a5) (up M s2 s1 s0))) :
    Ru (d + 1) kMo_puts 165 [xO 9 a0, xL a1, xU, xI a3, xI a4, xI a5, w6] [xI s0, xI s1, xAI 259 s2] M Q := sx_ok cMo_puts 4 [6, 22, 37, 50, 56, 150, 165] rfl h
theorem vMo_drops_0 {d : Nat} {M : xM} {Q : xQ} {a0 a1 : Int}
    (h : (0 ≤ (z32 (122 + a1)) ∧ (z32 (122 + a1)) < 259) ∧ (Ru (d + 1) kMo_drops 12 [xO 9 a0, xI a1, xI (M (a0 + 1) (z32 (122 + a1))), xI a1] [] M Q)) :
    Ru (d + 1) kMo_drops 0 [xO 9 a0, xI a1, xU, xU] [] M Q := sx_ok cMo_drops 10 [12, 32, 53] rfl h
theorem vMo_drops_12 {d : Nat} {M : xM} {Q : xQ} {a0 a1 a2 a3 : Int}
    (h : (0 ≤ (0 : Int) ∧ (0 : Int) < 259) ∧ (((M (a0 + 1) 0) ≤ (z32 (a3 + 1)) → (0 ≤ (0 : Int) ∧ (0 : Int) < 259) ∧ ((0 ≤ (0 : Int) ∧ (0 : Int) < 259) ∧ (Ru d kMo_frees 0 [xO 9 a0, xI a2] [] (up M (a0 + 1) 0 (z32 ((M (a0 + 1) 0) - 1))) (fun r N => Ru (d + 1) kMo_drops 53 [xO 9 a0, xI a1, xI a2, xI a3] [] N Q)))) ∧ (¬ ((M (a0 + 1) 0) ≤ (z32 (a3 + 1))) → Ru d kMo_copies 0 [xO 9 a0, xI a3, xI (z32 (a3 + 1))] [] M (fun r N => Ru (d + 1) kMo_drops 32 [xO 9 a0, xI a1, xI a2, xI a3] [] N Q)))) :
    Ru (d + 1) kMo_drops 12 [xO 9 a0, xI a1, xI a2, xI a3] [] M Q := sx_ok cMo_drops 20 [12, 32, 53] rfl h
theorem vMo_drops_32 {d : Nat} {M : xM} {Q : xQ} {a0 a1 a2 a3 : Int}
    (h : Ru (d + 1) kMo_drops 12 [xO 9 a0, xI a1, xI a2, xI (z32 (a3 + 1))] [] M Q) :
    Ru (d + 1) kMo_drops 32 [xO 9 a0, xI a1, xI a2, xI a3] [] M Q := sx_ok cMo_drops 3 [12, 32, 53] rfl h
theorem vMo_drops_53 {d : Nat} {M : xM} {Q : xQ} {a0 a1 a2 a3 : Int}
    (h : Q xU M) :
    Ru (d + 1) kMo_drops 53 [xO 9 a0, xI a1, xI a2, xI a3] [] M Q := sx_ok cMo_drops 2 [12, 32, 53] rfl h
theorem vMo_addsPlace_0 {d : Nat} {M : xM} {Q : xQ} {a0 a1 : Int}
    (h : (a1 < 4294967296 → Ru d kMo_addsPlace 14 [xO 9 a0, xL a1, xU, xI (M a0 12), xU] [] M Q) ∧ (¬ (a1 < 4294967296) → Q xU M)) :
    Ru d kMo_addsPlace 0 [xO 9 a0, xL a1, xU, xU, xU] [] M Q := sx_ok cMo_addsPlace 7 [14, 37, 61] rfl h
theorem vMo_addsPlace_14 {d : Nat} {M : xM} {Q : xQ} {a0 a1 a3 : Int}
    (h : (a3 ≤ 0 → Ru d kMo_addsPlace 37 [xO 9 a0, xL a1, xU, xI a3, xU] [] M Q) ∧ (¬ (a3 ≤ 0) → (0 ≤ (z32 (a3 - 1)) ∧ (z32 (a3 - 1)) < 124) ∧ (((M (a0 + 11) (z32 (a3 - 1))) ≤ a1 → Ru d kMo_addsPlace 37 [xO 9 a0, xL a1, xU, xI a3, xU] [] M Q) ∧ (¬ ((M (a0 + 11) (z32 (a3 - 1))) ≤ a1) → Ru d kMo_addsPlace 14 [xO 9 a0, xL a1, xU, xI (z32 (a3 + (-1))), xU] [] M Q)))) :
    Ru d kMo_addsPlace 14 [xO 9 a0, xL a1, xU, xI a3, xU] [] M Q := sx_ok cMo_addsPlace 13 [14, 37, 61] rfl h
theorem vMo_addsPlace_37 {d : Nat} {M : xM} {Q : xQ} {a0 a1 a3 : Int}
    (h : (a3 ≤ 0 → Ru d kMo_addsPlace 61 [xO 9 a0, xL a1, xU, xI a3, xI (M a0 12)] [] M Q) ∧ (¬ (a3 ≤ 0) → (0 ≤ (z32 (a3 - 1)) ∧ (z32 (a3 - 1)) < 124) ∧ ((¬ (M (a0 + 11) (z32 (a3 - 1))) = a1 → Ru d kMo_addsPlace 61 [xO 9 a0, xL a1, xU, xI a3, xI (M a0 12)] [] M Q) ∧ (¬ (¬ (M (a0 + 11) (z32 (a3 - 1))) = a1) → Q xU M)))) :
    Ru d kMo_addsPlace 37 [xO 9 a0, xL a1, xU, xI a3, xU] [] M Q := sx_ok cMo_addsPlace 14 [14, 37, 61] rfl h
theorem vMo_addsPlace_61 {d : Nat} {M : xM} {Q : xQ} {a0 a1 a3 a4 : Int}
    (h : (a4 ≤ a3 → (0 ≤ a3 ∧ a3 < 124) ∧ (Q xU (up (up M (a0 + 11) a3 a1) a0 12 (z32 (((up M (a0 + 11) a3 a1) a0 12) + 1))))) ∧ (¬ (a4 ≤ a3) → (0 ≤ (z32 (a4 - 1)) ∧ (z32 (a4 - 1)) < 124) ∧ ((0 ≤ a4 ∧ a4 < 124) ∧ (Ru d kMo_addsPlace 61 [xO 9 a0, xL a1, xU, xI a3, xI (z32 (a4 + (-1)))] [] (up M (a0 + 11) a4 (M (a0 + 11) (z32 (a4 - 1)))) Q)))) :
    Ru d kMo_addsPlace 61 [xO 9 a0, xL a1, xU, xI a3, xI a4] [] M Q := sx_ok cMo_addsPlace 16 [14, 37, 61] rfl h
theorem vMo_firstOf_0 {d : Nat} {M : xM} {Q : xQ} {na0 : Nat} {a0 a1 a2 : Int}
    (h : (0 ≤ (z32 ((z32 (a1 + 2)) + a2)) ∧ (z32 ((z32 (a1 + 2)) + a2)) < na0) ∧ (Ru d kMo_unsigned 0 [xI (M a0 (z32 ((z32 (a1 + 2)) + a2)))] [] M (fun r N => Ru (d + 1) kMo_firstOf 10 [xAI na0 a0, xI a1, xI a2] [r] N Q))) :
    Ru (d + 1) kMo_firstOf 0 [xAI na0 a0, xI a1, xI a2] [] M Q := sx_ok cMo_firstOf 9 [10] rfl h
theorem vMo_firstOf_10 {d : Nat} {M : xM} {Q : xQ} {na0 : Nat} {a0 a1 a2 s0 : Int}
    (h : Q (xL s0) M) :
    Ru (d + 1) kMo_firstOf 10 [xAI na0 a0, xI a1, xI a2] [xL s0] M Q := sx_ok cMo_firstOf 2 [10] rfl h
theorem vMo_behindOf_0 {d : Nat} {M : xM} {Q : xQ} {na0 : Nat} {a0 a1 a2 : Int}
    (h : Ru d kMo_firstOf 0 [xAI na0 a0, xI a1, xI a2] [] M (fun r N => Ru (d + 1) kMo_behindOf 6 [xAI na0 a0, xI a1, xI a2] [r] N Q)) :
    Ru (d + 1) kMo_behindOf 0 [xAI na0 a0, xI a1, xI a2] [] M Q := sx_ok cMo_behindOf 5 [6, 17] rfl h
theorem vMo_behindOf_6 {d : Nat} {M : xM} {Q : xQ} {na0 : Nat} {a0 a1 a2 s0 : Int}
    (h : (0 ≤ (z32 ((z32 (a1 + 62)) + a2)) ∧ (z32 ((z32 (a1 + 62)) + a2)) < na0) ∧ (Ru d kMo_sizeOf 0 [xI (M a0 (z32 ((z32 (a1 + 62)) + a2)))] [] M (fun r N => Ru (d + 1) kMo_behindOf 17 [xAI na0 a0, xI a1, xI a2] [r, xL s0] N Q))) :
    Ru (d + 1) kMo_behindOf 6 [xAI na0 a0, xI a1, xI a2] [xL s0] M Q := sx_ok cMo_behindOf 9 [6, 17] rfl h
theorem vMo_behindOf_17 {d : Nat} {M : xM} {Q : xQ} {na0 : Nat} {a0 a1 a2 s0 s1 : Int}
    (h : Q (xL (z64 (s1 + s0))) M) :
    Ru (d + 1) kMo_behindOf 17 [xAI na0 a0, xI a1, xI a2] [xL s0, xL s1] M Q := sx_ok cMo_behindOf 3 [6, 17] rfl h
theorem vMo_ruleOf_0 {d : Nat} {M : xM} {Q : xQ} {na0 : Nat} {a0 a1 a2 a4 : Int}
    (h : Ru (d + 1) kMo_ruleOf 6 [xAI na0 a0, xI a1, xL a2, xU, xI a4, xI (-1), xI 0] [] M Q) :
    Ru (d + 1) kMo_ruleOf 0 [xAI na0 a0, xI a1, xL a2, xU, xI a4, xU, xU] [] M Q := sx_ok cMo_ruleOf 5 [6, 31, 38, 43] rfl h
theorem vMo_ruleOf_6 {d : Nat} {M : xM} {Q : xQ} {na0 : Nat} {a0 a1 a2 a4 a5 a6 : Int}
    (h : (0 ≤ (z32 (a1 + 0)) ∧ (z32 (a1 + 0)) < na0) ∧ (((M a0 (z32 (a1 + 0))) ≤ a6 → Q (xI a5) M) ∧ (¬ ((M a0 (z32 (a1 + 0))) ≤ a6) → (a6 = a4 → Ru (d + 1) kMo_ruleOf 6 [xAI na0 a0, xI a1, xL a2, xU, xI a4, xI a5, xI (z32 (a6 + 1))] [] M Q) ∧ (¬ (a6 = a4) → Ru d kMo_firstOf 0 [xAI na0 a0, xI a1, xI a6] [] M (fun r N => Ru (d + 1) kMo_ruleOf 31 [xAI na0 a0, xI a1, xL a2, xU, xI a4, xI a5, xI a6] [r, xL a2] N Q))))) :
    Ru (d + 1) kMo_ruleOf 6 [xAI na0 a0, xI a1, xL a2, xU, xI a4, xI a5, xI a6] [] M Q := sx_ok cMo_ruleOf 16 [6, 31, 38, 43] rfl h
theorem vMo_ruleOf_31 {d : Nat} {M : xM} {Q : xQ} {na0 : Nat} {a0 a1 a2 a4 a5 a6 s0 s1 : Int}
    (h : Ru d kMo_behindOf 0 [xAI na0 a0, xI a1, xI a6] [] M (fun r N => Ru (d + 1) kMo_ruleOf 38 [xAI na0 a0, xI a1, xL a2, xU, xI a4, xI a5, xI a6] [r, xL s0, xL s1] N Q)) :
    Ru (d + 1) kMo_ruleOf 31 [xAI na0 a0, xI a1, xL a2, xU, xI a4, xI a5, xI a6] [xL s0, xL s1] M Q := sx_ok cMo_ruleOf 5 [6, 31, 38, 43] rfl h
theorem vMo_ruleOf_38 {d : Nat} {M : xM} {Q : xQ} {na0 : Nat} {a0 a1 a2 a4 a5 a6 s0 s1 s2 : Int}
    (h : Ru d kMo_isIn 0 [xL s2, xU, xL s1, xU, xL (z64 (s0 - 1)), xU] [] M (fun r N => Ru (d + 1) kMo_ruleOf 43 [xAI na0 a0, xI a1, xL a2, xU, xI a4, xI a5, xI a6] [r] N Q)) :
    Ru (d + 1) kMo_ruleOf 38 [xAI na0 a0, xI a1, xL a2, xU, xI a4, xI a5, xI a6] [xL s0, xL s1, xL s2] M Q := sx_ok cMo_ruleOf 4 [6, 31, 38, 43] rfl h
theorem vMo_ruleOf_43 {d : Nat} {M : xM} {Q : xQ} {na0 : Nat} {a0 a1 a2 a4 a5 a6 s0 : Int}
    (h : (¬ s0 = 0 → (a5 = (-1) → Ru (d + 1) kMo_ruleOf 6 [xAI na0 a0, xI a1, xL a2, xU, xI a4, xI a6, xI (z32 (a6 + 1))] [] M Q) ∧ (¬ (a5 = (-1)) → (0 ≤ (z32 ((z32 (a1 + 62)) + a6)) ∧ (z32 ((z32 (a1 + 62)) + a6)) < na0) ∧ ((0 ≤ (z32 ((z32 (a1 + 62)) + a5)) ∧ (z32 ((z32 (a1 + 62)) + a5)) < na0) ∧ (((M a0 (z32 ((z32 (a1 + 62)) + a6))) ≤ (M a0 (z32 ((z32 (a1 + 62)) + a5))) → Ru (d + 1) kMo_ruleOf 6 [xAI na0 a0, xI a1, xL a2, xU, xI a4, xI a5, xI (z32 (a6 + 1))] [] M Q) ∧ (¬ ((M a0 (z32 ((z32 (a1 + 62)) + a6))) ≤ (M a0 (z32 ((z32 (a1 + 62)) + a5)))) → Ru (d + 1) kMo_ruleOf 6 [xAI na0 a0, xI a1, xL a2, xU, xI a4, xI a6, xI (z32 (a6 + 1))] [] M Q))))) ∧ (¬ (¬ s0 = 0) → Ru (d + 1) kMo_ruleOf 6 [xAI na0 a0, xI a1, xL a2, xU, xI a4, xI a5, xI (z32 (a6 + 1))] [] M Q)) :
    Ru (d + 1) kMo_ruleOf 43 [xAI na0 a0, xI a1, xL a2, xU, xI a4, xI a5, xI a6] [xI s0] M Q := sx_ok cMo_ruleOf 24 [6, 31, 38, 43] rfl h
theorem vMo_laysPlaces_0 {d : Nat} {M : xM} {Q : xQ} {na1 : Nat} {a0 a1 a2 : Int}
    (h : Ru d kMo_addsPlace 0 [xO 9 a0, xL 0, xU, xU, xU] [] (up M a0 12 0) (fun r N => Ru (d + 1) kMo_laysPlaces 10 [xO 9 a0, xAI na1 a1, xI a2, xU] [] N Q)) :
    Ru (d + 1) kMo_laysPlaces 0 [xO 9 a0, xAI na1 a1, xI a2, xU] [] M Q := sx_ok cMo_laysPlaces 7 [10, 12, 28, 31, 38, 41, 49, 74] rfl h
theorem vMo_laysPlaces_10 {d : Nat} {M : xM} {Q : xQ} {na1 : Nat} {a0 a1 a2 : Int}
    (h : Ru (d + 1) kMo_laysPlaces 12 [xO 9 a0, xAI na1 a1, xI a2, xI 0] [] M Q) :
    Ru (d + 1) kMo_laysPlaces 10 [xO 9 a0, xAI na1 a1, xI a2, xU] [] M Q := sx_ok cMo_laysPlaces 3 [10, 12, 28, 31, 38, 41, 49, 74] rfl h
theorem vMo_laysPlaces_12 {d : Nat} {M : xM} {Q : xQ} {na1 : Nat} {a0 a1 a2 a3 : Int}
    (h : (0 ≤ (z32 (a2 + 0)) ∧ (z32 (a2 + 0)) < na1) ∧ (((M a1 (z32 (a2 + 0))) ≤ a3 → Ru (d + 1) kMo_laysPlaces 49 [xO 9 a0, xAI na1 a1, xI a2, xI 0] [] M Q) ∧ (¬ ((M a1 (z32 (a2 + 0))) ≤ a3) → Ru d kMo_firstOf 0 [xAI na1 a1, xI a2, xI a3] [] M (fun r N => Ru (d + 1) kMo_laysPlaces 28 [xO 9 a0, xAI na1 a1, xI a2, xI a3] [r, xO 9 a0] N Q)))) :
    Ru (d + 1) kMo_laysPlaces 12 [xO 9 a0, xAI na1 a1, xI a2, xI a3] [] M Q := sx_ok cMo_laysPlaces 13 [10, 12, 28, 31, 38, 41, 49, 74] rfl h
theorem vMo_laysPlaces_28 {d : Nat} {M : xM} {Q : xQ} {na1 : Nat} {a0 a1 a2 a3 s0 s1 : Int}
    (h : Ru d kMo_addsPlace 0 [xO 9 s1, xL s0, xU, xU, xU] [] M (fun r N => Ru (d + 1) kMo_laysPlaces 31 [xO 9 a0, xAI na1 a1, xI a2, xI a3] [] N Q)) :
    Ru (d + 1) kMo_laysPlaces 28 [xO 9 a0, xAI na1 a1, xI a2, xI a3] [xL s0, xO 9 s1] M Q := sx_ok cMo_laysPlaces 2 [10, 12, 28, 31, 38, 41, 49, 74] rfl h
theorem vMo_laysPlaces_31 {d : Nat} {M : xM} {Q : xQ} {na1 : Nat} {a0 a1 a2 a3 : Int}
    (h : Ru d kMo_behindOf 0 [xAI na1 a1, xI a2, xI a3] [] M (fun r N => Ru (d + 1) kMo_laysPlaces 38 [xO 9 a0, xAI na1 a1, xI a2, xI a3] [r, xO 9 a0] N Q)) :
    Ru (d + 1) kMo_laysPlaces 31 [xO 9 a0, xAI na1 a1, xI a2, xI a3] [] M Q := sx_ok cMo_laysPlaces 6 [10, 12, 28, 31, 38, 41, 49, 74] rfl h
theorem vMo_laysPlaces_38 {d : Nat} {M : xM} {Q : xQ} {na1 : Nat} {a0 a1 a2 a3 s0 s1 : Int}
    (h : Ru d kMo_addsPlace 0 [xO 9 s1, xL s0, xU, xU, xU] [] M (fun r N => Ru (d + 1) kMo_laysPlaces 41 [xO 9 a0, xAI na1 a1, xI a2, xI a3] [] N Q)) :
    Ru (d + 1) kMo_laysPlaces 38 [xO 9 a0, xAI na1 a1, xI a2, xI a3] [xL s0, xO 9 s1] M Q := sx_ok cMo_laysPlaces 2 [10, 12, 28, 31, 38, 41, 49, 74] rfl h
theorem vMo_laysPlaces_41 {d : Nat} {M : xM} {Q : xQ} {na1 : Nat} {a0 a1 a2 a3 : Int}
    (h : Ru (d + 1) kMo_laysPlaces 12 [xO 9 a0, xAI na1 a1, xI a2, xI (z32 (a3 + 1))] [] M Q) :
    Ru (d + 1) kMo_laysPlaces 41 [xO 9 a0, xAI na1 a1, xI a2, xI a3] [] M Q := sx_ok cMo_laysPlaces 3 [10, 12, 28, 31, 38, 41, 49, 74] rfl h
theorem vMo_laysPlaces_49 {d : Nat} {M : xM} {Q : xQ} {na1 : Nat} {a0 a1 a2 a3 : Int}
    (h : ((M a0 12) ≤ a3 → Q xU M) ∧ (¬ ((M a0 12) ≤ a3) → (0 ≤ a3 ∧ a3 < 124) ∧ (Ru d kMo_ruleOf 0 [xAI na1 a1, xI a2, xL (M (a0 + 11) a3), xU, xI (-1), xU, xU] [] M (fun r N => Ru (d + 1) kMo_laysPlaces 74 [xO 9 a0, xAI na1 a1, xI a2, xI a3] [r, xI a3, xAI 124 (a0 + 12)] N Q)))) :
    Ru (d + 1) kMo_laysPlaces 49 [xO 9 a0, xAI na1 a1, xI a2, xI a3] [] M Q := sx_ok cMo_laysPlaces 16 [10, 12, 28, 31, 38, 41, 49, 74] rfl h
theorem vMo_laysPlaces_74 {d : Nat} {M : xM} {Q : xQ} {na1 : Nat} {a0 a1 a2 a3 s0 s1 s2 : Int}
    (h : (0 ≤ s1 ∧ s1 < 124) ∧ (Ru (d + 1) kMo_laysPlaces 49 [xO 9 a0, xAI na1 a1, xI a2, xI (z32 (a3 + 1))] [] (up M s2 s1 s0) Q)) :
    Ru (d + 1) kMo_laysPlaces 74 [xO 9 a0, xAI na1 a1, xI a2, xI a3] [xI s0, xI s1, xAI 124 s2] M Q := sx_ok cMo_laysPlaces 4 [10, 12, 28, 31, 38, 41, 49, 74] rfl h
theorem vMo_codeBy_0 {d : Nat} {M : xM} {Q : xQ} {na0 : Nat} {a0 a1 a2 : Int}
    (h : (¬ a2 = (-1) → (0 ≤ (z32 ((z32 (a1 + 122)) + a2)) ∧ (z32 ((z32 (a1 + 122)) + a2)) < na0) ∧ ((0 ≤ (z32 ((z32 (a1 + 182)) + (M a0 (z32 ((z32 (a1 + 122)) + a2))))) ∧ (z32 ((z32 (a1 + 182)) + (M a0 (z32 ((z32 (a1 + 122)) + a2))))) < na0) ∧ (Q (xI (M a0 (z32 ((z32 (a1 + 182)) + (M a0 (z32 ((z32 (a1 + 122)) + a2))))))) M))) ∧ (¬ (¬ a2 = (-1)) → Q (xI (-1)) M)) :
    Ru d kMo_codeBy 0 [xAI na0 a0, xI a1, xI a2] [] M Q := sx_ok cMo_codeBy 18 [] rfl h
theorem vMo_laysTable_0 {d : Nat} {M : xM} {Q : xQ} {na2 : Nat} {a0 a1 a2 a3 : Int}
    (h : Ru d kMo_laysPlaces 0 [xO 9 a0, xAI na2 a2, xI a3, xU] [] M (fun r N => Ru (d + 1) kMo_laysTable 6 [xO 9 a0, xI a1, xAI na2 a2, xI a3, xU, xU, xU] [] N Q)) :
    Ru (d + 1) kMo_laysTable 0 [xO 9 a0, xI a1, xAI na2 a2, xI a3, xU, xU, xU] [] M Q := sx_ok cMo_laysTable 5 [6, 12, 33, 62, 136, 219] rfl h
theorem vMo_laysTable_6 {d : Nat} {M : xM} {Q : xQ} {na2 : Nat} {a0 a1 a2 a3 : Int}
    (h : Ru (d + 1) kMo_laysTable 12 [xO 9 a0, xI a1, xAI na2 a2, xI a3, xI 0, xI 0, xU] [] M Q) :
    Ru (d + 1) kMo_laysTable 6 [xO 9 a0, xI a1, xAI na2 a2, xI a3, xU, xU, xU] [] M Q := sx_ok cMo_laysTable 5 [6, 12, 33, 62, 136, 219] rfl h
theorem vMo_laysTable_12 {d : Nat} {M : xM} {Q : xQ} {na2 : Nat} {a0 a1 a2 a3 a4 a5 : Int} {w6 : xV}
    (h : ((M a0 12) ≤ a5 → (0 ≤ a1 ∧ a1 < 2) ∧ ((0 ≤ (z32 (a3 + 1)) ∧ (z32 (a3 + 1)) < na2) ∧ ((0 ≤ a1 ∧ a1 < 2) ∧ ((0 ≤ (z32 (17 * a1)) ∧ (z32 (17 * a1)) < 34) ∧ (Ru (d + 1) kMo_laysTable 136 [xO 9 a0, xI a1, xAI na2 a2, xI a3, xI a4, xI 0, w6] [] (up (up (up M (a0 + 5) a1 a4) (a0 + 8) a1 ((up M (a0 + 5) a1 a4) a2 (z32 (a3 + 1)))) (a0 + 10) (z32 (17 * a1)) 0) Q))))) ∧ (¬ ((M a0 12) ≤ a5) → (0 ≤ a5 ∧ a5 < 124) ∧ (Ru d kMo_codeBy 0 [xAI na2 a2, xI a3, xI (M (a0 + 12) a5)] [] M (fun r N => Ru (d + 1) kMo_laysTable 33 [xO 9 a0, xI a1, xAI na2 a2, xI a3, xI a4, xI a5, w6] [r] N Q)))) :
    Ru (d + 1) kMo_laysTable 12 [xO 9 a0, xI a1, xAI na2 a2, xI a3, xI a4, xI a5, w6] [] M Q := sx_ok cMo_laysTable 28 [6, 12, 33, 62, 136, 219] rfl h
theorem vMo_laysTable_33 {d : Nat} {M : xM} {Q : xQ} {na2 : Nat} {a0 a1 a2 a3 a4 a5 s0 : Int} {w6 : xV}
    (h : (a4 ≤ 0 → Ru (d + 1) kMo_laysTable 62 [xO 9 a0, xI a1, xAI na2 a2, xI a3, xI a4, xI a5, xI s0] [] M Q) ∧ (¬ (a4 ≤ 0) → (0 ≤ (z32 ((z32 ((z32 (124 * a1)) + a4)) - 1)) ∧ (z32 ((z32 ((z32 (124 * a1)) + a4)) - 1)) < 248) ∧ ((¬ (M (a0 + 7) (z32 ((z32 ((z32 (124 * a1)) + a4)) - 1))) = s0 → Ru (d + 1) kMo_laysTable 62 [xO 9 a0, xI a1, xAI na2 a2, xI a3, xI a4, xI a5, xI s0] [] M Q) ∧ (¬ (¬ (M (a0 + 7) (z32 ((z32 ((z32 (124 * a1)) + a4)) - 1))) = s0) → Ru (d + 1) kMo_laysTable 12 [xO 9 a0, xI a1, xAI na2 a2, xI a3, xI a4, xI (z32 (a5 + 1)), xI s0] [] M Q)))) :
    Ru (d + 1) kMo_laysTable 33 [xO 9 a0, xI a1, xAI na2 a2, xI a3, xI a4, xI a5, w6] [xI s0] M Q := sx_ok cMo_laysTable 19 [6, 12, 33, 62, 136, 219] rfl h
theorem vMo_laysTable_62 {d : Nat} {M : xM} {Q : xQ} {na2 : Nat} {a0 a1 a2 a3 a4 a5 a6 : Int}
    (h : (0 ≤ a5 ∧ a5 < 124) ∧ ((0 ≤ (z32 ((z32 (124 * a1)) + a4)) ∧ (z32 ((z32 (124 * a1)) + a4)) < 248) ∧ ((0 ≤ (z32 ((z32 (124 * a1)) + a4)) ∧ (z32 ((z32 (124 * a1)) + a4)) < 248) ∧ (Ru (d + 1) kMo_laysTable 12 [xO 9 a0, xI a1, xAI na2 a2, xI a3, xI (z32 (a4 + 1)), xI (z32 (a5 + 1)), xI a6] [] (up (up M (a0 + 6) (z32 ((z32 (124 * a1)) + a4)) (M (a0 + 11) a5)) (a0 + 7) (z32 ((z32 (124 * a1)) + a4)) a6) Q)))) :
    Ru (d + 1) kMo_laysTable 62 [xO 9 a0, xI a1, xAI na2 a2, xI a3, xI a4, xI a5, xI a6] [] M Q := sx_ok cMo_laysTable 25 [6, 12, 33, 62, 136, 219] rfl h
set_option maxRecDepth 20000 in
theorem vMo_laysTable_136 {d : Nat} {M : xM} {Q : xQ} {na2 : Nat} {a0 a1 a2 a3 a4 a5 : Int} {w6 : xV}
    (h : (0 ≤ (z32 (a3 + 1)) ∧ (z32 (a3 + 1)) < na2) ∧ (((M a2 (z32 (a3 + 1))) ≤ a5 → (¬ a1 = 0 → Ru (d + 1) kMo_laysTable 219 [xO 9 a0, xI a1, xAI na2 a2, xI a3, xI a4, xI a5, w6] [] M Q) ∧ (¬ (¬ a1 = 0) → Ru d kMo_laysNodes 0 [xO 9 a0, xU, xU, xU, xU, xU, xU, xU, xU] [] M (fun r N => Ru (d + 1) kMo_laysTable 219 [xO 9 a0, xI a1, xAI na2 a2, xI a3, xI a4, xI a5, w6] [] N Q))) ∧ (¬ ((M a2 (z32 (a3 + 1))) ≤ a5) → (0 ≤ (z32 ((z32 (a3 + 243)) + a5)) ∧ (z32 ((z32 (a3 + 243)) + a5)) < na2) ∧ ((0 ≤ (z32 ((z32 (16 * a1)) + a5)) ∧ (z32 ((z32 (16 * a1)) + a5)) < 32) ∧ ((0 ≤ (z32 ((z32 (17 * a1)) + a5)) ∧ (z32 ((z32 (17 * a1)) + a5)) < 34) ∧ ((0 ≤ (z32 ((z32 (a3 + 243)) + a5)) ∧ (z32 ((z32 (a3 + 243)) + a5)) < na2) ∧ ((0 ≤ (z32 ((z32 ((z32 (17 * a1)) + a5)) + 1)) ∧ (z32 ((z32 ((z32 (17 * a1)) + a5)) + 1)) < 34) ∧ (Ru (d + 1) kMo_laysTable 136 [xO 9 a0, xI a1, xAI na2 a2, xI a3, xI a4, xI (z32 (a5 + 1)), w6] [] (up (up M (a0 + 9) (z32 ((z32 (16 * a1)) + a5)) (M a2 (z32 ((z32 (a3 + 243)) + a5)))) (a0 + 10) (z32 ((z32 ((z32 (17 * a1)) + a5)) + 1)) (z32 (((up M (a0 + 9) (z32 ((z32 (16 * a1)) + a5)) (M a2 (z32 ((z32 (a3 + 243)) + a5)))) (a0 + 10) (z32 ((z32 (17 * a1)) + a5))) + ((up M (a0 + 9) (z32 ((z32 (16 * a1)) + a5)) (M a2 (z32 ((z32 (a3 + 243)) + a5)))) a2 (z32 ((z32 (a3 + 243)) + a5)))))) Q)))))))) :
    Ru (d + 1) kMo_laysTable 136 [xO 9 a0, xI a1, xAI na2 a2, xI a3, xI a4, xI a5, w6] [] M Q := sx_ok cMo_laysTable 51 [6, 12, 33, 62, 136, 219] rfl h
theorem vMo_laysTable_219 {d : Nat} {M : xM} {Q : xQ} {na2 : Nat} {a0 a1 a2 a3 a4 a5 : Int} {w6 : xV}
    (h : Q xU M) :
    Ru (d + 1) kMo_laysTable 219 [xO 9 a0, xI a1, xAI na2 a2, xI a3, xI a4, xI a5, w6] [] M Q := sx_ok cMo_laysTable 2 [6, 12, 33, 62, 136, 219] rfl h
theorem vMo_behindRow_0 {d : Nat} {M : xM} {Q : xQ} {a0 a1 a2 : Int}
    (h : (0 ≤ a1 ∧ a1 < 2) ∧ (((M (a0 + 5) a1) ≤ (z32 (a2 + 1)) → Q (xL 4294967296) M) ∧ (¬ ((M (a0 + 5) a1) ≤ (z32 (a2 + 1))) → (0 ≤ (z32 ((z32 ((z32 (124 * a1)) + a2)) + 1)) ∧ (z32 ((z32 ((z32 (124 * a1)) + a2)) + 1)) < 248) ∧ (Q (xL (M (a0 + 6) (z32 ((z32 ((z32 (124 * a1)) + a2)) + 1)))) M)))) :
    Ru d kMo_behindRow 0 [xO 9 a0, xI a1, xI a2] [] M Q := sx_ok cMo_behindRow 21 [] rfl h
theorem vMo_rowAt_0 {d : Nat} {M : xM} {Q : xQ} {a0 a1 a2 : Int}
    (h : (0 ≤ a1 ∧ a1 < 2) ∧ (Ru d kMo_rowAt 13 [xO 9 a0, xI a1, xL a2, xU, xI 0, xI (z32 ((M (a0 + 5) a1) - 1)), xU] [] M Q)) :
    Ru d kMo_rowAt 0 [xO 9 a0, xI a1, xL a2, xU, xU, xU, xU] [] M Q := sx_ok cMo_rowAt 10 [13] rfl h
theorem vMo_rowAt_13 {d : Nat} {M : xM} {Q : xQ} {a0 a1 a2 a4 a5 : Int} {w6 : xV}
    (h : (a5 ≤ a4 → Q (xI a4) M) ∧ (¬ (a5 ≤ a4) → ¬ (2 : Int) = 0 ∧ ((0 ≤ (z32 ((z32 (124 * a1)) + (idiv (z32 ((z32 (a4 + a5)) + 1)) 2))) ∧ (z32 ((z32 (124 * a1)) + (idiv (z32 ((z32 (a4 + a5)) + 1)) 2))) < 248) ∧ ((a2 < (M (a0 + 6) (z32 ((z32 (124 * a1)) + (idiv (z32 ((z32 (a4 + a5)) + 1)) 2)))) → Ru d kMo_rowAt 13 [xO 9 a0, xI a1, xL a2, xU, xI a4, xI (z32 ((idiv (z32 ((z32 (a4 + a5)) + 1)) 2) - 1)), xI (idiv (z32 ((z32 (a4 + a5)) + 1)) 2)] [] M Q) ∧ (¬ (a2 < (M (a0 + 6) (z32 ((z32 (124 * a1)) + (idiv (z32 ((z32 (a4 + a5)) + 1)) 2))))) → Ru d kMo_rowAt 13 [xO 9 a0, xI a1, xL a2, xU, xI (idiv (z32 ((z32 (a4 + a5)) + 1)) 2), xI a5, xI (idiv (z32 ((z32 (a4 + a5)) + 1)) 2)] [] M Q))))) :
    Ru d kMo_rowAt 13 [xO 9 a0, xI a1, xL a2, xU, xI a4, xI a5, w6] [] M Q := sx_ok cMo_rowAt 27 [13] rfl h
theorem vMo_isOne_0 {d : Nat} {M : xM} {Q : xQ} {a0 a1 a2 a4 : Int}
    (h : Ru d kMo_rowAt 0 [xO 9 a0, xI a1, xL a2, xU, xU, xU, xU] [] M (fun r N => Ru (d + 1) kMo_isOne 8 [xO 9 a0, xI a1, xL a2, xU, xL a4, xU] [r, xI a1, xO 9 a0] N Q)) :
    Ru (d + 1) kMo_isOne 0 [xO 9 a0, xI a1, xL a2, xU, xL a4, xU] [] M Q := sx_ok cMo_isOne 7 [8, 11] rfl h
theorem vMo_isOne_8 {d : Nat} {M : xM} {Q : xQ} {a0 a1 a2 a4 s0 s1 s2 : Int}
    (h : Ru d kMo_behindRow 0 [xO 9 s2, xI s1, xI s0] [] M (fun r N => Ru (d + 1) kMo_isOne 11 [xO 9 a0, xI a1, xL a2, xU, xL a4, xU] [r] N Q)) :
    Ru (d + 1) kMo_isOne 8 [xO 9 a0, xI a1, xL a2, xU, xL a4, xU] [xI s0, xI s1, xO 9 s2] M Q := sx_ok cMo_isOne 2 [8, 11] rfl h
theorem vMo_isOne_11 {d : Nat} {M : xM} {Q : xQ} {a0 a1 a2 a4 s0 : Int}
    (h : (s0 < (z64 (a2 + a4)) → Q (xI 0) M) ∧ (¬ (s0 < (z64 (a2 + a4))) → Q (xI 1) M)) :
    Ru (d + 1) kMo_isOne 11 [xO 9 a0, xI a1, xL a2, xU, xL a4, xU] [xL s0] M Q := sx_ok cMo_isOne 8 [8, 11] rfl h
theorem vMo_codeAt_0 {d : Nat} {M : xM} {Q : xQ} {a0 a1 a2 : Int}
    (h : Ru d kMo_rowAt 0 [xO 9 a0, xI a1, xL a2, xU, xU, xU, xU] [] M (fun r N => Ru (d + 1) kMo_codeAt 14 [xO 9 a0, xI a1, xL a2, xU] [r, xI (z32 (124 * a1)), xAI 248 (a0 + 7)] N Q)) :
    Ru (d + 1) kMo_codeAt 0 [xO 9 a0, xI a1, xL a2, xU] [] M Q := sx_ok cMo_codeAt 10 [14] rfl h
theorem vMo_codeAt_14 {d : Nat} {M : xM} {Q : xQ} {a0 a1 a2 s0 s1 s2 : Int}
    (h : (0 ≤ (z32 (s1 + s0)) ∧ (z32 (s1 + s0)) < 248) ∧ (Q (xI (M s2 (z32 (s1 + s0)))) M)) :
    Ru (d + 1) kMo_codeAt 14 [xO 9 a0, xI a1, xL a2, xU] [xI s0, xI s1, xAI 248 s2] M Q := sx_ok cMo_codeAt 4 [14] rfl h
theorem vMo_lengthAt_0 {d : Nat} {M : xM} {Q : xQ} {a0 a1 a2 : Int}
    (h : (0 ≤ (z32 ((z32 (17 * a1)) + a2)) ∧ (z32 ((z32 (17 * a1)) + a2)) < 34) ∧ (Q (xI (M (a0 + 10) (z32 ((z32 (17 * a1)) + a2)))) M)) :
    Ru d kMo_lengthAt 0 [xO 9 a0, xI a1, xI a2] [] M Q := sx_ok cMo_lengthAt 10 [] rfl h
theorem vMo_addsNode_0 {d : Nat} {M : xM} {Q : xQ} {a0 a1 a2 : Int}
    (h : (0 ≤ (M a0 15) ∧ (M a0 15) < 2000) ∧ ((0 ≤ ((up M (a0 + 13) (M a0 15) a1) a0 15) ∧ ((up M (a0 + 13) (M a0 15) a1) a0 15) < 2000) ∧ (Q xU (up (up (up M (a0 + 13) (M a0 15) a1) (a0 + 14) ((up M (a0 + 13) (M a0 15) a1) a0 15) a2) a0 15 (z32 (((up (up M (a0 + 13) (M a0 15) a1) (a0 + 14) ((up M (a0 + 13) (M a0 15) a1) a0 15) a2) a0 15) + 1)))))) :
    Ru d kMo_addsNode 0 [xO 9 a0, xI a1, xL a2, xU] [] M Q := sx_ok cMo_addsNode 20 [] rfl h
theorem vMo_laysNodes_0 {d : Nat} {M : xM} {Q : xQ} {a0 : Int}
    (h : (0 ≤ (0 : Int) ∧ (0 : Int) < 18) ∧ (Ru d kMo_addsNode 0 [xO 9 a0, xI 0, xL 0, xU] [] (up (up (up M a0 19 0) a0 15 0) (a0 + 15) 0 0) (fun r N => Ru (d + 1) kMo_laysNodes 23 [xO 9 a0, xU, xU, xU, xU, xU, xU, xU, xU] [] N Q))) :
    Ru (d + 1) kMo_laysNodes 0 [xO 9 a0, xU, xU, xU, xU, xU, xU, xU, xU] [] M Q := sx_ok cMo_laysNodes 16 [23, 25, 51, 54, 58, 139] rfl h
theorem vMo_laysNodes_23 {d : Nat} {M : xM} {Q : xQ} {a0 : Int}
    (h : Ru (d + 1) kMo_laysNodes 25 [xO 9 a0, xI 1, xU, xU, xU, xU, xU, xU, xU] [] M Q) :
    Ru (d + 1) kMo_laysNodes 23 [xO 9 a0, xU, xU, xU, xU, xU, xU, xU, xU] [] M Q := sx_ok cMo_laysNodes 3 [23, 25, 51, 54, 58, 139] rfl h
theorem vMo_laysNodes_25 {d : Nat} {M : xM} {Q : xQ} {a0 a1 : Int} {w2 w4 w5 w7 : xV}
    (h : (0 ≤ (0 : Int) ∧ (0 : Int) < 2) ∧ (((M (a0 + 8) 0) ≤ a1 → (0 ≤ (0 : Int) ∧ (0 : Int) < 2) ∧ ((0 ≤ (M (a0 + 8) 0) ∧ (M (a0 + 8) 0) < 18) ∧ (Q xU (up M (a0 + 15) (M (a0 + 8) 0) (M a0 15))))) ∧ (¬ ((M (a0 + 8) 0) ≤ a1) → (0 ≤ a1 ∧ a1 < 18) ∧ (Ru d kMo_lengthAt 0 [xO 9 a0, xI 0, xI a1] [] (up M (a0 + 15) a1 (M a0 15)) (fun r N => Ru (d + 1) kMo_laysNodes 51 [xO 9 a0, xI a1, w2, xU, w4, w5, xU, w7, xU] [r] N Q))))) :
    Ru (d + 1) kMo_laysNodes 25 [xO 9 a0, xI a1, w2, xU, w4, w5, xU, w7, xU] [] M Q := sx_ok cMo_laysNodes 17 [23, 25, 51, 54, 58, 139] rfl h
theorem vMo_laysNodes_51 {d : Nat} {M : xM} {Q : xQ} {a0 a1 s0 : Int} {w2 w4 w5 w7 : xV}
    (h : Ru d kMo_sizeOf 0 [xI s0] [] M (fun r N => Ru (d + 1) kMo_laysNodes 54 [xO 9 a0, xI a1, w2, xU, w4, w5, xU, w7, xU] [r] N Q)) :
    Ru (d + 1) kMo_laysNodes 51 [xO 9 a0, xI a1, w2, xU, w4, w5, xU, w7, xU] [xI s0] M Q := sx_ok cMo_laysNodes 2 [23, 25, 51, 54, 58, 139] rfl h
theorem vMo_laysNodes_54 {d : Nat} {M : xM} {Q : xQ} {a0 a1 s0 : Int} {w2 w4 w5 w7 : xV}
    (h : Ru (d + 1) kMo_laysNodes 58 [xO 9 a0, xI a1, xL s0, xU, xI 1, w5, xU, w7, xU] [] M Q) :
    Ru (d + 1) kMo_laysNodes 54 [xO 9 a0, xI a1, w2, xU, w4, w5, xU, w7, xU] [xL s0] M Q := sx_ok cMo_laysNodes 4 [23, 25, 51, 54, 58, 139] rfl h
set_option maxRecDepth 20000 in
theorem vMo_laysNodes_58 {d : Nat} {M : xM} {Q : xQ} {a0 a1 a2 a4 : Int} {w5 w7 : xV}
    (h : (0 ≤ (0 : Int) ∧ (0 : Int) < 2) ∧ (((M (a0 + 5) 0) ≤ a4 → Ru (d + 1) kMo_laysNodes 25 [xO 9 a0, xI (z32 (a1 + 1)), xL a2, xU, xI a4, w5, xU, w7, xU] [] M Q) ∧ (¬ ((M (a0 + 5) 0) ≤ a4) → (0 ≤ a4 ∧ a4 < 248) ∧ (¬ a2 = 0 ∧ ((0 ≤ a4 ∧ a4 < 248) ∧ (((lrem (M (a0 + 6) a4) a2) = 0 → Ru (d + 1) kMo_laysNodes 139 [xO 9 a0, xI a1, xL a2, xU, xI a4, xL (lrem (M (a0 + 6) a4) a2), xU, xL (z64 ((M (a0 + 6) a4) - (lrem (M (a0 + 6) a4) a2))), xU] [] M Q) ∧ (¬ ((lrem (M (a0 + 6) a4) a2) = 0) → (0 ≤ a1 ∧ a1 < 18) ∧ (((M a0 15) ≤ (M (a0 + 15) a1) → Ru d kMo_addsNode 0 [xO 9 a0, xI a1, xL (z64 ((M (a0 + 6) a4) - (lrem (M (a0 + 6) a4) a2))), xU] [] M (fun r N => Ru (d + 1) kMo_laysNodes 139 [xO 9 a0, xI a1, xL a2, xU, xI a4, xL (lrem (M (a0 + 6) a4) a2), xU, xL (z64 ((M (a0 + 6) a4) - (lrem (M (a0 + 6) a4) a2))), xU] [] N Q)) ∧ (¬ ((M a0 15) ≤ (M (a0 + 15) a1)) → (0 ≤ (z32 ((M a0 15) - 1)) ∧ (z32 ((M a0 15) - 1)) < 2000) ∧ ((¬ (M (a0 + 14) (z32 ((M a0 15) - 1))) = (z64 ((M (a0 + 6) a4) - (lrem (M (a0 + 6) a4) a2))) → Ru d kMo_addsNode 0 [xO 9 a0, xI a1, xL (z64 ((M (a0 + 6) a4) - (lrem (M (a0 + 6) a4) a2))), xU] [] M (fun r N => Ru (d + 1) kMo_laysNodes 139 [xO 9 a0, xI a1, xL a2, xU, xI a4, xL (lrem (M (a0 + 6) a4) a2), xU, xL (z64 ((M (a0 + 6) a4) - (lrem (M (a0 + 6) a4) a2))), xU] [] N Q)) ∧ (¬ (¬ (M (a0 + 14) (z32 ((M a0 15) - 1))) = (z64 ((M (a0 + 6) a4) - (lrem (M (a0 + 6) a4) a2)))) → Ru (d + 1) kMo_laysNodes 139 [xO 9 a0, xI a1, xL a2, xU, xI a4, xL (lrem (M (a0 + 6) a4) a2), xU, xL (z64 ((M (a0 + 6) a4) - (lrem (M (a0 + 6) a4) a2))), xU] [] M Q))))))))))) :
    Ru (d + 1) kMo_laysNodes 58 [xO 9 a0, xI a1, xL a2, xU, xI a4, w5, xU, w7, xU] [] M Q := sx_ok cMo_laysNodes 44 [23, 25, 51, 54, 58, 139] rfl h
theorem vMo_laysNodes_139 {d : Nat} {M : xM} {Q : xQ} {a0 a1 a2 a4 a5 a7 : Int}
    (h : Ru (d + 1) kMo_laysNodes 58 [xO 9 a0, xI a1, xL a2, xU, xI (z32 (a4 + 1)), xL a5, xU, xL a7, xU] [] M Q) :
    Ru (d + 1) kMo_laysNodes 139 [xO 9 a0, xI a1, xL a2, xU, xI a4, xL a5, xU, xL a7, xU] [] M Q := sx_ok cMo_laysNodes 3 [23, 25, 51, 54, 58, 139] rfl h
theorem vMo_hasNode_0 {d : Nat} {M : xM} {Q : xQ} {a0 a1 a2 a3 : Int}
    (h : (¬ a2 = 0 → (0 ≤ a1 ∧ a1 < 2) ∧ ((a2 < (M (a0 + 8) a1) → Ru d kMo_lengthAt 0 [xO 9 a0, xI a1, xI a2] [] M (fun r N => Ru (d + 1) kMo_hasNode 24 [xO 9 a0, xI a1, xI a2, xL a3, xU, xU, xU] [r] N Q)) ∧ (¬ (a2 < (M (a0 + 8) a1)) → Q (xI 0) M))) ∧ (¬ (¬ a2 = 0) → Q (xI 1) M)) :
    Ru (d + 1) kMo_hasNode 0 [xO 9 a0, xI a1, xI a2, xL a3, xU, xU, xU] [] M Q := sx_ok cMo_hasNode 13 [24, 27, 46] rfl h
theorem vMo_hasNode_24 {d : Nat} {M : xM} {Q : xQ} {a0 a1 a2 a3 s0 : Int}
    (h : Ru d kMo_sizeOf 0 [xI s0] [] M (fun r N => Ru (d + 1) kMo_hasNode 27 [xO 9 a0, xI a1, xI a2, xL a3, xU, xU, xU] [r] N Q)) :
    Ru (d + 1) kMo_hasNode 24 [xO 9 a0, xI a1, xI a2, xL a3, xU, xU, xU] [xI s0] M Q := sx_ok cMo_hasNode 2 [24, 27, 46] rfl h
theorem vMo_hasNode_27 {d : Nat} {M : xM} {Q : xQ} {a0 a1 a2 a3 s0 : Int}
    (h : ¬ s0 = 0 ∧ ((¬ (lrem a3 s0) = 0 → Q (xI 0) M) ∧ (¬ (¬ (lrem a3 s0) = 0) → Ru d kMo_isOne 0 [xO 9 a0, xI a1, xL a3, xU, xL s0, xU] [] M (fun r N => Ru (d + 1) kMo_hasNode 46 [xO 9 a0, xI a1, xI a2, xL a3, xU, xL s0, xU] [r] N Q)))) :
    Ru (d + 1) kMo_hasNode 27 [xO 9 a0, xI a1, xI a2, xL a3, xU, xU, xU] [xL s0] M Q := sx_ok cMo_hasNode 12 [24, 27, 46] rfl h
theorem vMo_hasNode_46 {d : Nat} {M : xM} {Q : xQ} {a0 a1 a2 a3 a5 s0 : Int}
    (h : (¬ s0 = 0 → Q (xI 0) M) ∧ (¬ (¬ s0 = 0) → Q (xI 1) M)) :
    Ru (d + 1) kMo_hasNode 46 [xO 9 a0, xI a1, xI a2, xL a3, xU, xL a5, xU] [xI s0] M Q := sx_ok cMo_hasNode 5 [24, 27, 46] rfl h
theorem vMo_nodeAt_0 {d : Nat} {M : xM} {Q : xQ} {a0 a1 a2 : Int}
    (h : Ru d kMo_lengthAt 0 [xO 9 a0, xI 0, xI a1] [] M (fun r N => Ru (d + 1) kMo_nodeAt 6 [xO 9 a0, xI a1, xL a2, xU, xU, xU, xU, xU, xU] [r] N Q)) :
    Ru (d + 1) kMo_nodeAt 0 [xO 9 a0, xI a1, xL a2, xU, xU, xU, xU, xU, xU] [] M Q := sx_ok cMo_nodeAt 5 [6, 9, 27] rfl h
theorem vMo_nodeAt_6 {d : Nat} {M : xM} {Q : xQ} {a0 a1 a2 s0 : Int}
    (h : Ru d kMo_sizeOf 0 [xI s0] [] M (fun r N => Ru (d + 1) kMo_nodeAt 9 [xO 9 a0, xI a1, xL a2, xU, xU, xU, xU, xU, xU] [r] N Q)) :
    Ru (d + 1) kMo_nodeAt 6 [xO 9 a0, xI a1, xL a2, xU, xU, xU, xU, xU, xU] [xI s0] M Q := sx_ok cMo_nodeAt 2 [6, 9, 27] rfl h
theorem vMo_nodeAt_9 {d : Nat} {M : xM} {Q : xQ} {a0 a1 a2 s0 : Int}
    (h : ¬ s0 = 0 ∧ ((0 ≤ a1 ∧ a1 < 18) ∧ (Ru (d + 1) kMo_nodeAt 27 [xO 9 a0, xI a1, xL a2, xU, xL s0, xU, xL (z64 (a2 - (lrem a2 s0))), xU, xI (M (a0 + 15) a1)] [] M Q))) :
    Ru (d + 1) kMo_nodeAt 9 [xO 9 a0, xI a1, xL a2, xU, xU, xU, xU, xU, xU] [xL s0] M Q := sx_ok cMo_nodeAt 13 [6, 9, 27] rfl h
theorem vMo_nodeAt_27 {d : Nat} {M : xM} {Q : xQ} {a0 a1 a2 a4 a6 a8 : Int}
    (h : (0 ≤ (z32 (a1 + 1)) ∧ (z32 (a1 + 1)) < 18) ∧ (((M (a0 + 15) (z32 (a1 + 1))) ≤ a8 → Q (xI (-1)) M) ∧ (¬ ((M (a0 + 15) (z32 (a1 + 1))) ≤ a8) → (0 ≤ a8 ∧ a8 < 2000) ∧ ((¬ (M (a0 + 14) a8) = a6 → Ru (d + 1) kMo_nodeAt 27 [xO 9 a0, xI a1, xL a2, xU, xL a4, xU, xL a6, xU, xI (z32 (a8 + 1))] [] M Q) ∧ (¬ (¬ (M (a0 + 14) a8) = a6) → Q (xI a8) M))))) :
    Ru (d + 1) kMo_nodeAt 27 [xO 9 a0, xI a1, xL a2, xU, xL a4, xU, xL a6, xU, xI a8] [] M Q := sx_ok cMo_nodeAt 17 [6, 9, 27] rfl h
theorem vMo_slotsAt_0 {d : Nat} {M : xM} {Q : xQ} {a0 a1 a2 : Int}
    (h : (0 ≤ (z32 ((z32 (16 * a1)) + a2)) ∧ (z32 ((z32 (16 * a1)) + a2)) < 32) ∧ (Q (xI (ishl 1 (M (a0 + 9) (z32 ((z32 (16 * a1)) + a2))))) M)) :
    Ru d kMo_slotsAt 0 [xO 9 a0, xI a1, xI a2] [] M Q := sx_ok cMo_slotsAt 12 [] rfl h
theorem vMo_slotSize_0 {d : Nat} {M : xM} {Q : xQ} {a0 a1 a2 : Int}
    (h : Ru d kMo_lengthAt 0 [xO 9 a0, xI a1, xI (z32 (a2 + 1))] [] M (fun r N => Ru (d + 1) kMo_slotSize 8 [xO 9 a0, xI a1, xI a2] [r] N Q)) :
    Ru (d + 1) kMo_slotSize 0 [xO 9 a0, xI a1, xI a2] [] M Q := sx_ok cMo_slotSize 7 [8, 11] rfl h
theorem vMo_slotSize_8 {d : Nat} {M : xM} {Q : xQ} {a0 a1 a2 s0 : Int}
    (h : Ru d kMo_sizeOf 0 [xI s0] [] M (fun r N => Ru (d + 1) kMo_slotSize 11 [xO 9 a0, xI a1, xI a2] [r] N Q)) :
    Ru (d + 1) kMo_slotSize 8 [xO 9 a0, xI a1, xI a2] [xI s0] M Q := sx_ok cMo_slotSize 2 [8, 11] rfl h
theorem vMo_slotSize_11 {d : Nat} {M : xM} {Q : xQ} {a0 a1 a2 s0 : Int}
    (h : Q (xL s0) M) :
    Ru (d + 1) kMo_slotSize 11 [xO 9 a0, xI a1, xI a2] [xL s0] M Q := sx_ok cMo_slotSize 2 [8, 11] rfl h
theorem vMo_reads_0 {d : Nat} {M : xM} {Q : xQ} {a0 a1 a2 a3 : Int}
    (h : Ru d kMo_slotSize 0 [xO 9 a0, xI a1, xI a2] [] (up (up (up M a0 20 0) a0 21 0) a0 22 0) (fun r N => Ru (d + 1) kMo_reads 21 [xO 9 a0, xI a1, xI a2, xL a3, xU, xU, xU, xU, xU, xU, xU] [r] N Q)) :
    Ru (d + 1) kMo_reads 0 [xO 9 a0, xI a1, xI a2, xL a3, xU, xU, xU, xU, xU, xU, xU] [] M Q := sx_ok cMo_reads 14 [21, 26, 34, 56, 82, 110] rfl h
theorem vMo_reads_21 {d : Nat} {M : xM} {Q : xQ} {a0 a1 a2 a3 s0 : Int}
    (h : Ru (d + 1) kMo_reads 26 [xO 9 a0, xI a1, xI a2, xL a3, xU, xL s0, xU, xI 0, xU, xU, xU] [] M Q) :
    Ru (d + 1) kMo_reads 21 [xO 9 a0, xI a1, xI a2, xL a3, xU, xU, xU, xU, xU, xU, xU] [xL s0] M Q := sx_ok cMo_reads 4 [21, 26, 34, 56, 82, 110] rfl h
theorem vMo_reads_26 {d : Nat} {M : xM} {Q : xQ} {a0 a1 a2 a3 a5 a7 : Int} {w8 w10 : xV}
    (h : Ru d kMo_slotsAt 0 [xO 9 a0, xI a1, xI a2] [] M (fun r N => Ru (d + 1) kMo_reads 34 [xO 9 a0, xI a1, xI a2, xL a3, xU, xL a5, xU, xI a7, w8, xU, w10] [r, xI a7] N Q)) :
    Ru (d + 1) kMo_reads 26 [xO 9 a0, xI a1, xI a2, xL a3, xU, xL a5, xU, xI a7, w8, xU, w10] [] M Q := sx_ok cMo_reads 6 [21, 26, 34, 56, 82, 110] rfl h
theorem vMo_reads_34 {d : Nat} {M : xM} {Q : xQ} {a0 a1 a2 a3 a5 a7 s0 s1 : Int} {w8 w10 : xV}
    (h : (s0 ≤ s1 → Q xU M) ∧ (¬ (s0 ≤ s1) → Ru d kMo_isOne 0 [xO 9 a0, xI a1, xL (z64 (a3 + (z64 (a7 * a5)))), xU, xL a5, xU] [] M (fun r N => Ru (d + 1) kMo_reads 56 [xO 9 a0, xI a1, xI a2, xL a3, xU, xL a5, xU, xI a7, xL (z64 (a3 + (z64 (a7 * a5)))), xU, w10] [r] N Q))) :
    Ru (d + 1) kMo_reads 34 [xO 9 a0, xI a1, xI a2, xL a3, xU, xL a5, xU, xI a7, w8, xU, w10] [xI s0, xI s1] M Q := sx_ok cMo_reads 14 [21, 26, 34, 56, 82, 110] rfl h
theorem vMo_reads_56 {d : Nat} {M : xM} {Q : xQ} {a0 a1 a2 a3 a5 a7 a8 s0 : Int} {w10 : xV}
    (h : (¬ s0 = 0 → Ru d kMo_codeAt 0 [xO 9 a0, xI a1, xL a8, xU] [] M (fun r N => Ru (d + 1) kMo_reads 82 [xO 9 a0, xI a1, xI a2, xL a3, xU, xL a5, xU, xI a7, xL a8, xU, w10] [r] N Q)) ∧ (¬ (¬ s0 = 0) → Ru (d + 1) kMo_reads 26 [xO 9 a0, xI a1, xI a2, xL a3, xU, xL a5, xU, xI (z32 (a7 + 1)), xL a8, xU, w10] [] (up M a0 20 (lor (M a0 20) (lshl 1 a7))) Q)) :
    Ru (d + 1) kMo_reads 56 [xO 9 a0, xI a1, xI a2, xL a3, xU, xL a5, xU, xI a7, xL a8, xU, w10] [xI s0] M Q := sx_ok cMo_reads 13 [21, 26, 34, 56, 82, 110] rfl h
theorem vMo_reads_82 {d : Nat} {M : xM} {Q : xQ} {a0 a1 a2 a3 a5 a7 a8 s0 : Int} {w10 : xV}
    (h : ((M a0 22) ≤ 0 → Ru (d + 1) kMo_reads 110 [xO 9 a0, xI a1, xI a2, xL a3, xU, xL a5, xU, xI a7, xL a8, xU, xI s0] [] M Q) ∧ (¬ ((M a0 22) ≤ 0) → (0 ≤ (z32 ((M a0 22) - 1)) ∧ (z32 ((M a0 22) - 1)) < 64) ∧ ((¬ (M (a0 + 16) (z32 ((M a0 22) - 1))) = s0 → Ru (d + 1) kMo_reads 110 [xO 9 a0, xI a1, xI a2, xL a3, xU, xL a5, xU, xI a7, xL a8, xU, xI s0] [] M Q) ∧ (¬ (¬ (M (a0 + 16) (z32 ((M a0 22) - 1))) = s0) → Ru (d + 1) kMo_reads 26 [xO 9 a0, xI a1, xI a2, xL a3, xU, xL a5, xU, xI (z32 (a7 + 1)), xL a8, xU, xI s0] [] M Q)))) :
    Ru (d + 1) kMo_reads 82 [xO 9 a0, xI a1, xI a2, xL a3, xU, xL a5, xU, xI a7, xL a8, xU, w10] [xI s0] M Q := sx_ok cMo_reads 17 [21, 26, 34, 56, 82, 110] rfl h
theorem vMo_reads_110 {d : Nat} {M : xM} {Q : xQ} {a0 a1 a2 a3 a5 a7 a8 a10 : Int}
    (h : (0 ≤ ((up M a0 21 (lor (M a0 21) (lshl 1 a7))) a0 22) ∧ ((up M a0 21 (lor (M a0 21) (lshl 1 a7))) a0 22) < 64) ∧ (Ru (d + 1) kMo_reads 26 [xO 9 a0, xI a1, xI a2, xL a3, xU, xL a5, xU, xI (z32 (a7 + 1)), xL a8, xU, xI a10] [] (up (up (up M a0 21 (lor (M a0 21) (lshl 1 a7))) (a0 + 16) ((up M a0 21 (lor (M a0 21) (lshl 1 a7))) a0 22) a10) a0 22 (z32 (((up (up M a0 21 (lor (M a0 21) (lshl 1 a7))) (a0 + 16) ((up M a0 21 (lor (M a0 21) (lshl 1 a7))) a0 22) a10) a0 22) + 1))) Q)) :
    Ru (d + 1) kMo_reads 110 [xO 9 a0, xI a1, xI a2, xL a3, xU, xL a5, xU, xI a7, xL a8, xU, xI a10] [] M Q := sx_ok cMo_reads 23 [21, 26, 34, 56, 82, 110] rfl h
theorem vMo_isUnlike_0 {d : Nat} {M : xM} {Q : xQ} {a0 a1 a2 : Int}
    (h : Ru d kMo_reads 0 [xO 9 a0, xI 1, xI a1, xL a2, xU, xU, xU, xU, xU, xU, xU] [] M (fun r N => Ru (d + 1) kMo_isUnlike 7 [xO 9 a0, xI a1, xL a2, xU, xU] [] N Q)) :
    Ru (d + 1) kMo_isUnlike 0 [xO 9 a0, xI a1, xL a2, xU, xU] [] M Q := sx_ok cMo_isUnlike 6 [7, 34, 70, 110] rfl h
theorem vMo_isUnlike_7 {d : Nat} {M : xM} {Q : xQ} {a0 a1 a2 : Int}
    (h : Ru (d + 1) kMo_isUnlike 34 [xO 9 a0, xI a1, xL a2, xU, xI 0] [] (up (up (up M a0 24 (M a0 20)) a0 25 ((up M a0 24 (M a0 20)) a0 21)) a0 26 ((up (up M a0 24 (M a0 20)) a0 25 ((up M a0 24 (M a0 20)) a0 21)) a0 22)) Q) :
    Ru (d + 1) kMo_isUnlike 7 [xO 9 a0, xI a1, xL a2, xU, xU] [] M Q := sx_ok cMo_isUnlike 15 [7, 34, 70, 110] rfl h
theorem vMo_isUnlike_34 {d : Nat} {M : xM} {Q : xQ} {a0 a1 a2 a4 : Int}
    (h : ((M a0 22) ≤ a4 → Ru d kMo_reads 0 [xO 9 a0, xI 0, xI a1, xL a2, xU, xU, xU, xU, xU, xU, xU] [] M (fun r N => Ru (d + 1) kMo_isUnlike 70 [xO 9 a0, xI a1, xL a2, xU, xI a4] [] N Q)) ∧ (¬ ((M a0 22) ≤ a4) → (0 ≤ a4 ∧ a4 < 64) ∧ ((0 ≤ a4 ∧ a4 < 64) ∧ (Ru (d + 1) kMo_isUnlike 34 [xO 9 a0, xI a1, xL a2, xU, xI (z32 (a4 + 1))] [] (up M (a0 + 17) a4 (M (a0 + 16) a4)) Q)))) :
    Ru (d + 1) kMo_isUnlike 34 [xO 9 a0, xI a1, xL a2, xU, xI a4] [] M Q := sx_ok cMo_isUnlike 15 [7, 34, 70, 110] rfl h
theorem vMo_isUnlike_70 {d : Nat} {M : xM} {Q : xQ} {a0 a1 a2 a4 : Int}
    (h : (¬ (M a0 20) = (M a0 24) → Q (xI 1) M) ∧ (¬ (¬ (M a0 20) = (M a0 24)) → (¬ (M a0 21) = (M a0 25) → Q (xI 1) M) ∧ (¬ (¬ (M a0 21) = (M a0 25)) → ((M a0 22) = (M a0 26) → Ru (d + 1) kMo_isUnlike 110 [xO 9 a0, xI a1, xL a2, xU, xI 0] [] M Q) ∧ (¬ ((M a0 22) = (M a0 26)) → Q (xI 1) M)))) :
    Ru (d + 1) kMo_isUnlike 70 [xO 9 a0, xI a1, xL a2, xU, xI a4] [] M Q := sx_ok cMo_isUnlike 18 [7, 34, 70, 110] rfl h
theorem vMo_isUnlike_110 {d : Nat} {M : xM} {Q : xQ} {a0 a1 a2 a4 : Int}
    (h : ((M a0 22) ≤ a4 → Q (xI 0) M) ∧ (¬ ((M a0 22) ≤ a4) → (0 ≤ a4 ∧ a4 < 64) ∧ ((0 ≤ a4 ∧ a4 < 64) ∧ (((M (a0 + 16) a4) = (M (a0 + 17) a4) → Ru (d + 1) kMo_isUnlike 110 [xO 9 a0, xI a1, xL a2, xU, xI (z32 (a4 + 1))] [] M Q) ∧ (¬ ((M (a0 + 16) a4) = (M (a0 + 17) a4)) → Q (xI 1) M))))) :
    Ru (d + 1) kMo_isUnlike 110 [xO 9 a0, xI a1, xL a2, xU, xI a4] [] M Q := sx_ok cMo_isUnlike 16 [7, 34, 70, 110] rfl h
theorem vMo_othersNow_0 {d : Nat} {M : xM} {Q : xQ} {a0 : Int}
    (h : Ru (d + 1) kMo_othersNow 4 [xO 9 a0, xI 0, xI 0] [] M Q) :
    Ru (d + 1) kMo_othersNow 0 [xO 9 a0, xU, xU] [] M Q := sx_ok cMo_othersNow 5 [4, 30, 49] rfl h
theorem vMo_othersNow_4 {d : Nat} {M : xM} {Q : xQ} {a0 a1 a2 : Int}
    (h : ((M a0 15) ≤ a2 → Q (xI a1) M) ∧ (¬ ((M a0 15) ≤ a2) → (0 ≤ a2 ∧ a2 < 2000) ∧ ((0 ≤ a2 ∧ a2 < 2000) ∧ (Ru d kMo_hasNode 0 [xO 9 a0, xI 1, xI (M (a0 + 13) a2), xL (M (a0 + 14) a2), xU, xU, xU] [] M (fun r N => Ru (d + 1) kMo_othersNow 30 [xO 9 a0, xI a1, xI a2] [r, xI a1] N Q))))) :
    Ru (d + 1) kMo_othersNow 4 [xO 9 a0, xI a1, xI a2] [] M Q := sx_ok cMo_othersNow 17 [4, 30, 49] rfl h
theorem vMo_othersNow_30 {d : Nat} {M : xM} {Q : xQ} {a0 a1 a2 s0 s1 : Int}
    (h : (s0 = 0 → Ru (d + 1) kMo_othersNow 4 [xO 9 a0, xI (z32 (s1 + 1)), xI (z32 (a2 + 1))] [] M Q) ∧ (¬ (s0 = 0) → (0 ≤ a2 ∧ a2 < 2000) ∧ ((0 ≤ a2 ∧ a2 < 2000) ∧ (Ru d kMo_isUnlike 0 [xO 9 a0, xI (M (a0 + 13) a2), xL (M (a0 + 14) a2), xU, xU] [] M (fun r N => Ru (d + 1) kMo_othersNow 49 [xO 9 a0, xI a1, xI a2] [r, xI s1] N Q))))) :
    Ru (d + 1) kMo_othersNow 30 [xO 9 a0, xI a1, xI a2] [xI s0, xI s1] M Q := sx_ok cMo_othersNow 12 [4, 30, 49] rfl h
theorem vMo_othersNow_49 {d : Nat} {M : xM} {Q : xQ} {a0 a1 a2 s0 s1 : Int}
    (h : (s0 = 0 → Ru (d + 1) kMo_othersNow 4 [xO 9 a0, xI (z32 (s1 + 0)), xI (z32 (a2 + 1))] [] M Q) ∧ (¬ (s0 = 0) → Ru (d + 1) kMo_othersNow 4 [xO 9 a0, xI (z32 (s1 + 1)), xI (z32 (a2 + 1))] [] M Q)) :
    Ru (d + 1) kMo_othersNow 49 [xO 9 a0, xI a1, xI a2] [xI s0, xI s1] M Q := sx_ok cMo_othersNow 8 [4, 30, 49] rfl h
theorem vMo_goneNow_0 {d : Nat} {M : xM} {Q : xQ} {a0 : Int}
    (h : Ru (d + 1) kMo_goneNow 4 [xO 9 a0, xI 0, xI 1, xU, xU, xU, xU, xU, xU, xU, xU, xU] [] M Q) :
    Ru (d + 1) kMo_goneNow 0 [xO 9 a0, xU, xU, xU, xU, xU, xU, xU, xU, xU, xU, xU] [] M Q := sx_ok cMo_goneNow 5 [4, 20, 23, 32, 103] rfl h
theorem vMo_goneNow_4 {d : Nat} {M : xM} {Q : xQ} {a0 a1 a2 : Int} {w3 w5 w7 w8 w10 : xV}
    (h : (0 ≤ (1 : Int) ∧ (1 : Int) < 2) ∧ (((M (a0 + 8) 1) ≤ a2 → Q (xI a1) M) ∧ (¬ ((M (a0 + 8) 1) ≤ a2) → Ru d kMo_lengthAt 0 [xO 9 a0, xI 1, xI a2] [] M (fun r N => Ru (d + 1) kMo_goneNow 20 [xO 9 a0, xI a1, xI a2, w3, xU, w5, xU, w7, w8, xU, w10, xU] [r] N Q)))) :
    Ru (d + 1) kMo_goneNow 4 [xO 9 a0, xI a1, xI a2, w3, xU, w5, xU, w7, w8, xU, w10, xU] [] M Q := sx_ok cMo_goneNow 11 [4, 20, 23, 32, 103] rfl h
theorem vMo_goneNow_20 {d : Nat} {M : xM} {Q : xQ} {a0 a1 a2 s0 : Int} {w3 w5 w7 w8 w10 : xV}
    (h : Ru d kMo_sizeOf 0 [xI s0] [] M (fun r N => Ru (d + 1) kMo_goneNow 23 [xO 9 a0, xI a1, xI a2, w3, xU, w5, xU, w7, w8, xU, w10, xU] [r] N Q)) :
    Ru (d + 1) kMo_goneNow 20 [xO 9 a0, xI a1, xI a2, w3, xU, w5, xU, w7, w8, xU, w10, xU] [xI s0] M Q := sx_ok cMo_goneNow 2 [4, 20, 23, 32, 103] rfl h
theorem vMo_goneNow_23 {d : Nat} {M : xM} {Q : xQ} {a0 a1 a2 s0 : Int} {w3 w5 w7 w8 w10 : xV}
    (h : Ru (d + 1) kMo_goneNow 32 [xO 9 a0, xI a1, xI a2, xL s0, xU, xL (-1), xU, xI 1, w8, xU, w10, xU] [] M Q) :
    Ru (d + 1) kMo_goneNow 23 [xO 9 a0, xI a1, xI a2, w3, xU, w5, xU, w7, w8, xU, w10, xU] [xL s0] M Q := sx_ok cMo_goneNow 6 [4, 20, 23, 32, 103] rfl h
theorem vMo_goneNow_32 {d : Nat} {M : xM} {Q : xQ} {a0 a1 a2 a3 a5 a7 : Int} {w8 w10 : xV}
    (h : (0 ≤ (1 : Int) ∧ (1 : Int) < 2) ∧ (((M (a0 + 5) 1) ≤ a7 → Ru (d + 1) kMo_goneNow 4 [xO 9 a0, xI a1, xI (z32 (a2 + 1)), xL a3, xU, xL a5, xU, xI a7, w8, xU, w10, xU] [] M Q) ∧ (¬ ((M (a0 + 5) 1) ≤ a7) → (0 ≤ (z32 (124 + a7)) ∧ (z32 (124 + a7)) < 248) ∧ (¬ a3 = 0 ∧ ((0 ≤ (z32 (124 + a7)) ∧ (z32 (124 + a7)) < 248) ∧ (((lrem (M (a0 + 6) (z32 (124 + a7))) a3) = 0 → Ru (d + 1) kMo_goneNow 32 [xO 9 a0, xI a1, xI a2, xL a3, xU, xL a5, xU, xI (z32 (a7 + 1)), xL (lrem (M (a0 + 6) (z32 (124 + a7))) a3), xU, xL (z64 ((M (a0 + 6) (z32 (124 + a7))) - (lrem (M (a0 + 6) (z32 (124 + a7))) a3))), xU] [] M Q) ∧ (¬ ((lrem (M (a0 + 6) (z32 (124 + a7))) a3) = 0) → (¬ (z64 ((M (a0 + 6) (z32 (124 + a7))) - (lrem (M (a0 + 6) (z32 (124 + a7))) a3))) = a5 → Ru d kMo_hasNode 0 [xO 9 a0, xI 0, xI a2, xL (z64 ((M (a0 + 6) (z32 (124 + a7))) - (lrem (M (a0 + 6) (z32 (124 + a7))) a3))), xU, xU, xU] [] M (fun r N => Ru (d + 1) kMo_goneNow 103 [xO 9 a0, xI a1, xI a2, xL a3, xU, xL (z64 ((M (a0 + 6) (z32 (124 + a7))) - (lrem (M (a0 + 6) (z32 (124 + a7))) a3))), xU, xI a7, xL (lrem (M (a0 + 6) (z32 (124 + a7))) a3), xU, xL (z64 ((M (a0 + 6) (z32 (124 + a7))) - (lrem (M (a0 + 6) (z32 (124 + a7))) a3))), xU] [r, xI a1] N Q)) ∧ (¬ (¬ (z64 ((M (a0 + 6) (z32 (124 + a7))) - (lrem (M (a0 + 6) (z32 (124 + a7))) a3))) = a5) → Ru (d + 1) kMo_goneNow 32 [xO 9 a0, xI a1, xI a2, xL a3, xU, xL a5, xU, xI (z32 (a7 + 1)), xL (lrem (M (a0 + 6) (z32 (124 + a7))) a3), xU, xL (z64 ((M (a0 + 6) (z32 (124 + a7))) - (lrem (M (a0 + 6) (z32 (124 + a7))) a3))), xU] [] M Q)))))))) :
    Ru (d + 1) kMo_goneNow 32 [xO 9 a0, xI a1, xI a2, xL a3, xU, xL a5, xU, xI a7, w8, xU, w10, xU] [] M Q := sx_ok cMo_goneNow 39 [4, 20, 23, 32, 103] rfl h
theorem vMo_goneNow_103 {d : Nat} {M : xM} {Q : xQ} {a0 a1 a2 a3 a5 a7 a8 a10 s0 s1 : Int}
    (h : (s0 = 0 → Ru (d + 1) kMo_goneNow 32 [xO 9 a0, xI (z32 (s1 + 1)), xI a2, xL a3, xU, xL a5, xU, xI (z32 (a7 + 1)), xL a8, xU, xL a10, xU] [] M Q) ∧ (¬ (s0 = 0) → Ru (d + 1) kMo_goneNow 32 [xO 9 a0, xI (z32 (s1 + 0)), xI a2, xL a3, xU, xL a5, xU, xI (z32 (a7 + 1)), xL a8, xU, xL a10, xU] [] M Q)) :
    Ru (d + 1) kMo_goneNow 103 [xO 9 a0, xI a1, xI a2, xL a3, xU, xL a5, xU, xI a7, xL a8, xU, xL a10, xU] [xI s0, xI s1] M Q := sx_ok cMo_goneNow 8 [4, 20, 23, 32, 103] rfl h
theorem vMo_keepsAct_0 {d : Nat} {M : xM} {Q : xQ} {a0 : Int}
    (h : (¬ (M a0 2) = 10 → Ru d kMo_keepsAct 54 [xO 9 a0, xI 0] [] M Q) ∧ (¬ (¬ (M a0 2) = 10) → Ru d kMo_keepsAct 13 [xO 9 a0, xI 259] [] M Q)) :
    Ru d kMo_keepsAct 0 [xO 9 a0, xU] [] M Q := sx_ok cMo_keepsAct 7 [13, 54] rfl h
theorem vMo_keepsAct_13 {d : Nat} {M : xM} {Q : xQ} {a0 a1 : Int}
    (h : (2590 ≤ a1 → Ru d kMo_keepsAct 54 [xO 9 a0, xI 0] [] (up M a0 2 (z32 ((M a0 2) - 1))) Q) ∧ (¬ (2590 ≤ a1) → (0 ≤ a1 ∧ a1 < 2590) ∧ ((0 ≤ (z32 (a1 - 259)) ∧ (z32 (a1 - 259)) < 2590) ∧ (Ru d kMo_keepsAct 13 [xO 9 a0, xI (z32 (a1 + 1))] [] (up M (a0 + 2) (z32 (a1 - 259)) (M (a0 + 2) a1)) Q)))) :
    Ru d kMo_keepsAct 13 [xO 9 a0, xI a1] [] M Q := sx_ok cMo_keepsAct 16 [13, 54] rfl h
theorem vMo_keepsAct_54 {d : Nat} {M : xM} {Q : xQ} {a0 a1 : Int}
    (h : (259 ≤ a1 → Q xU (up M a0 2 (z32 ((M a0 2) + 1)))) ∧ (¬ (259 ≤ a1) → (0 ≤ a1 ∧ a1 < 259) ∧ ((0 ≤ (z32 ((z32 (259 * (M a0 2))) + a1)) ∧ (z32 ((z32 (259 * (M a0 2))) + a1)) < 2590) ∧ (Ru d kMo_keepsAct 54 [xO 9 a0, xI (z32 (a1 + 1))] [] (up M (a0 + 2) (z32 ((z32 (259 * (M a0 2))) + a1)) (M (a0 + 1) a1)) Q)))) :
    Ru d kMo_keepsAct 54 [xO 9 a0, xI a1] [] M Q := sx_ok cMo_keepsAct 19 [13, 54] rfl h
theorem vMo_isDone_0 {d : Nat} {M : xM} {Q : xQ} {a0 : Int}
    (h : Ru d kMo_laysTable 0 [xO 9 a0, xI 1, xAI 2590 (a0 + 2), xI (z32 (259 * (z32 ((M a0 2) - 1)))), xU, xU, xU] [] M (fun r N => Ru (d + 1) kMo_isDone 19 [xO 9 a0] [] N Q)) :
    Ru (d + 1) kMo_isDone 0 [xO 9 a0] [] M Q := sx_ok cMo_isDone 12 [19, 29, 34, 38] rfl h
theorem vMo_isDone_19 {d : Nat} {M : xM} {Q : xQ} {a0 : Int}
    (h : Ru d kMo_laysTable 0 [xO 9 a0, xI 0, xAI 259 (a0 + 1), xI 0, xU, xU, xU] [] M (fun r N => Ru (d + 1) kMo_isDone 29 [xO 9 a0] [] N Q)) :
    Ru (d + 1) kMo_isDone 19 [xO 9 a0] [] M Q := sx_ok cMo_isDone 7 [19, 29, 34, 38] rfl h
theorem vMo_isDone_29 {d : Nat} {M : xM} {Q : xQ} {a0 : Int}
    (h : Ru d kMo_othersNow 0 [xO 9 a0, xU, xU] [] M (fun r N => Ru (d + 1) kMo_isDone 34 [xO 9 a0] [r, xO 9 a0] N Q)) :
    Ru (d + 1) kMo_isDone 29 [xO 9 a0] [] M Q := sx_ok cMo_isDone 4 [19, 29, 34, 38] rfl h
theorem vMo_isDone_34 {d : Nat} {M : xM} {Q : xQ} {a0 s0 s1 : Int}
    (h : Ru d kMo_goneNow 0 [xO 9 a0, xU, xU, xU, xU, xU, xU, xU, xU, xU, xU, xU] [] M (fun r N => Ru (d + 1) kMo_isDone 38 [xO 9 a0] [r, xI s0, xO 9 s1] N Q)) :
    Ru (d + 1) kMo_isDone 34 [xO 9 a0] [xI s0, xO 9 s1] M Q := sx_ok cMo_isDone 3 [19, 29, 34, 38] rfl h
theorem vMo_isDone_38 {d : Nat} {M : xM} {Q : xQ} {a0 s0 s1 s2 : Int}
    (h : Q xU (up M s2 5 (z32 (s1 + s0)))) :
    Ru (d + 1) kMo_isDone 38 [xO 9 a0] [xI s0, xI s1, xO 9 s2] M Q := sx_ok cMo_isDone 4 [19, 29, 34, 38] rfl h
theorem vMo_isLaidAnew_0 {d : Nat} {M : xM} {Q : xQ} {a0 : Int}
    (h : Ru d kMo_laysTable 0 [xO 9 a0, xI 0, xAI 259 (a0 + 1), xI 0, xU, xU, xU] [] M (fun r N => Ru (d + 1) kMo_isLaidAnew 10 [xO 9 a0] [] N Q)) :
    Ru (d + 1) kMo_isLaidAnew 0 [xO 9 a0] [] M Q := sx_ok cMo_isLaidAnew 7 [10] rfl h
theorem vMo_isLaidAnew_10 {d : Nat} {M : xM} {Q : xQ} {a0 : Int}
    (h : Q xU (up M a0 5 0)) :
    Ru (d + 1) kMo_isLaidAnew 10 [xO 9 a0] [] M Q := sx_ok cMo_isLaidAnew 5 [10] rfl h
theorem vMo_undo_0 {d : Nat} {M : xM} {Q : xQ} {a0 : Int}
    (h : (¬ (M a0 2) = 0 → Ru (d + 1) kMo_undo 21 [xO 9 a0, xI 0] [] (up M a0 2 (z32 ((M a0 2) - 1))) Q) ∧ (¬ (¬ (M a0 2) = 0) → Q (xI (-1)) M)) :
    Ru (d + 1) kMo_undo 0 [xO 9 a0, xU] [] M Q := sx_ok cMo_undo 12 [21, 59] rfl h
theorem vMo_undo_21 {d : Nat} {M : xM} {Q : xQ} {a0 a1 : Int}
    (h : (259 ≤ a1 → Ru d kMo_isLaidAnew 0 [xO 9 a0] [] M (fun r N => Ru (d + 1) kMo_undo 59 [xO 9 a0, xI a1] [] N Q)) ∧ (¬ (259 ≤ a1) → (0 ≤ (z32 ((z32 (259 * (M a0 2))) + a1)) ∧ (z32 ((z32 (259 * (M a0 2))) + a1)) < 2590) ∧ ((0 ≤ a1 ∧ a1 < 259) ∧ (Ru (d + 1) kMo_undo 21 [xO 9 a0, xI (z32 (a1 + 1))] [] (up M (a0 + 1) a1 (M (a0 + 2) (z32 ((z32 (259 * (M a0 2))) + a1)))) Q)))) :
    Ru (d + 1) kMo_undo 21 [xO 9 a0, xI a1] [] M Q := sx_ok cMo_undo 19 [21, 59] rfl h
theorem vMo_undo_59 {d : Nat} {M : xM} {Q : xQ} {a0 a1 : Int}
    (h : Q (xI (M a0 2)) M) :
    Ru (d + 1) kMo_undo 59 [xO 9 a0, xI a1] [] M Q := sx_ok cMo_undo 4 [21, 59] rfl h
theorem vMo_isShelf_0 {d : Nat} {M : xM} {Q : xQ} {a0 : Int}
    (h : Ru d kMo_isIn 0 [xL a0, xU, xL 0, xU, xL 1, xU] [] M (fun r N => Ru (d + 1) kMo_isShelf 7 [xI a0] [r] N Q)) :
    Ru (d + 1) kMo_isShelf 0 [xI a0] [] M Q := sx_ok cMo_isShelf 6 [7] rfl h
theorem vMo_isShelf_7 {d : Nat} {M : xM} {Q : xQ} {a0 s0 : Int}
    (h : rb s0 (Q (xI s0) M)) :
    Ru (d + 1) kMo_isShelf 7 [xI a0] [xI s0] M Q := sx_ok cMo_isShelf 2 [7] rfl h
theorem vMo_keep_0 {d : Nat} {M : xM} {Q : xQ} {a0 a1 : Int}
    (h : Ru d kMo_isShelf 0 [xI a1] [] M (fun r N => Ru (d + 1) kMo_keep 4 [xO 9 a0, xI a1, xU] [r] N Q)) :
    Ru (d + 1) kMo_keep 0 [xO 9 a0, xI a1, xU] [] M Q := sx_ok cMo_keep 3 [4, 11] rfl h
theorem vMo_keep_4 {d : Nat} {M : xM} {Q : xQ} {a0 a1 s0 : Int}
    (h : (¬ s0 = 0 → Ru (d + 1) kMo_keep 11 [xO 9 a0, xI a1, xI 0] [] M Q) ∧ (¬ (¬ s0 = 0) → Q (xI (-1)) M)) :
    Ru (d + 1) kMo_keep 4 [xO 9 a0, xI a1, xU] [xI s0] M Q := sx_ok cMo_keep 4 [4, 11] rfl h
theorem vMo_keep_11 {d : Nat} {M : xM} {Q : xQ} {a0 a1 a2 : Int}
    (h : (259 ≤ a2 → (0 ≤ a1 ∧ a1 < 2) ∧ ((0 ≤ (0 : Int) ∧ (0 : Int) < 259) ∧ (Q (xI ((up M (a0 + 4) a1 1) (a0 + 1) 0)) (up M (a0 + 4) a1 1)))) ∧ (¬ (259 ≤ a2) → (0 ≤ a2 ∧ a2 < 259) ∧ ((0 ≤ (z32 ((z32 (259 * a1)) + a2)) ∧ (z32 ((z32 (259 * a1)) + a2)) < 518) ∧ (Ru (d + 1) kMo_keep 11 [xO 9 a0, xI a1, xI (z32 (a2 + 1))] [] (up M (a0 + 3) (z32 ((z32 (259 * a1)) + a2)) (M (a0 + 1) a2)) Q)))) :
    Ru (d + 1) kMo_keep 11 [xO 9 a0, xI a1, xI a2] [] M Q := sx_ok cMo_keep 18 [4, 11] rfl h
theorem vMo_back_0 {d : Nat} {M : xM} {Q : xQ} {a0 a1 : Int}
    (h : Ru d kMo_isShelf 0 [xI a1] [] M (fun r N => Ru (d + 1) kMo_back 4 [xO 9 a0, xI a1, xU] [r] N Q)) :
    Ru (d + 1) kMo_back 0 [xO 9 a0, xI a1, xU] [] M Q := sx_ok cMo_back 3 [4, 23, 63] rfl h
theorem vMo_back_4 {d : Nat} {M : xM} {Q : xQ} {a0 a1 s0 : Int}
    (h : (¬ s0 = 0 → (0 ≤ a1 ∧ a1 < 2) ∧ ((¬ (M (a0 + 4) a1) = 0 → Ru (d + 1) kMo_back 23 [xO 9 a0, xI a1, xI 0] [] M Q) ∧ (¬ (¬ (M (a0 + 4) a1) = 0) → Q (xI (-2)) M))) ∧ (¬ (¬ s0 = 0) → Q (xI (-1)) M)) :
    Ru (d + 1) kMo_back 4 [xO 9 a0, xI a1, xU] [xI s0] M Q := sx_ok cMo_back 9 [4, 23, 63] rfl h
theorem vMo_back_23 {d : Nat} {M : xM} {Q : xQ} {a0 a1 a2 : Int}
    (h : (259 ≤ a2 → Ru d kMo_isLaidAnew 0 [xO 9 a0] [] (up M a0 2 0) (fun r N => Ru (d + 1) kMo_back 63 [xO 9 a0, xI a1, xI a2] [] N Q)) ∧ (¬ (259 ≤ a2) → (0 ≤ (z32 ((z32 (259 * a1)) + a2)) ∧ (z32 ((z32 (259 * a1)) + a2)) < 518) ∧ ((0 ≤ a2 ∧ a2 < 259) ∧ (Ru (d + 1) kMo_back 23 [xO 9 a0, xI a1, xI (z32 (a2 + 1))] [] (up M (a0 + 1) a2 (M (a0 + 3) (z32 ((z32 (259 * a1)) + a2)))) Q)))) :
    Ru (d + 1) kMo_back 23 [xO 9 a0, xI a1, xI a2] [] M Q := sx_ok cMo_back 18 [4, 23, 63] rfl h
theorem vMo_back_63 {d : Nat} {M : xM} {Q : xQ} {a0 a1 a2 : Int}
    (h : (0 ≤ (0 : Int) ∧ (0 : Int) < 259) ∧ (Q (xI (M (a0 + 1) 0)) M)) :
    Ru (d + 1) kMo_back 63 [xO 9 a0, xI a1, xI a2] [] M Q := sx_ok cMo_back 6 [4, 23, 63] rfl h
theorem vMo_hasIt_0 {d : Nat} {M : xM} {Q : xQ} {a0 a1 a3 a4 : Int}
    (h : Ru d kMo_find 0 [xO 9 a0, xL a1, xU, xI a3, xU] [] M (fun r N => Ru (d + 1) kMo_hasIt 6 [xO 9 a0, xL a1, xU, xI a3, xI a4, xU] [r] N Q)) :
    Ru (d + 1) kMo_hasIt 0 [xO 9 a0, xL a1, xU, xI a3, xI a4, xU] [] M Q := sx_ok cMo_hasIt 5 [6] rfl h
theorem vMo_hasIt_6 {d : Nat} {M : xM} {Q : xQ} {a0 a1 a3 a4 s0 : Int}
    (h : (s0 = (-1) → Q (xI 0) M) ∧ (¬ (s0 = (-1)) → (0 ≤ (z32 (122 + s0)) ∧ (z32 (122 + s0)) < 259) ∧ ((0 ≤ (z32 (182 + (M (a0 + 1) (z32 (122 + s0))))) ∧ (z32 (182 + (M (a0 + 1) (z32 (122 + s0))))) < 259) ∧ ((¬ (M (a0 + 1) (z32 (182 + (M (a0 + 1) (z32 (122 + s0)))))) = a4 → Q (xI 0) M) ∧ (¬ (¬ (M (a0 + 1) (z32 (182 + (M (a0 + 1) (z32 (122 + s0)))))) = a4) → Q (xI 1) M))))) :
    Ru (d + 1) kMo_hasIt 6 [xO 9 a0, xL a1, xU, xI a3, xI a4, xU] [xI s0] M Q := sx_ok cMo_hasIt 21 [6] rfl h
theorem vMo_add_0 {d : Nat} {M : xM} {Q : xQ} {a0 a1 a2 a3 a4 : Int}
    (h : Ru d kMo_isBeginning 0 [xI a1, xI a2] [] M (fun r N => Ru (d + 1) kMo_add 5 [xO 9 a0, xI a1, xI a2, xI a3, xI a4, xU, xU] [r] N Q)) :
    Ru (d + 1) kMo_add 0 [xO 9 a0, xI a1, xI a2, xI a3, xI a4, xU, xU] [] M Q := sx_ok cMo_add 4 [5, 14, 33, 39, 61, 65, 72, 76, 81, 87, 93] rfl h
theorem vMo_add_5 {d : Nat} {M : xM} {Q : xQ} {a0 a1 a2 a3 a4 s0 : Int}
    (h : (s0 = 0 → Q (xI (-1)) M) ∧ (¬ (s0 = 0) → Ru d kMo_isWay 0 [xI a3, xI a4] [] M (fun r N => Ru (d + 1) kMo_add 14 [xO 9 a0, xI a1, xI a2, xI a3, xI a4, xU, xU] [r] N Q))) :
    Ru (d + 1) kMo_add 5 [xO 9 a0, xI a1, xI a2, xI a3, xI a4, xU, xU] [xI s0] M Q := sx_ok cMo_add 5 [5, 14, 33, 39, 61, 65, 72, 76, 81, 87, 93] rfl h
theorem vMo_add_14 {d : Nat} {M : xM} {Q : xQ} {a0 a1 a2 a3 a4 s0 : Int}
    (h : (¬ s0 = 0 → Ru d kMo_unsigned 0 [xI a1] [] M (fun r N => Ru (d + 1) kMo_add 33 [xO 9 a0, xI a1, xI a2, xI a3, xI a4, xI (z32 ((z32 (10 * a3)) + a4)), xU] [r, xO 9 a0] N Q)) ∧ (¬ (¬ s0 = 0) → Q (xI (-1)) M)) :
    Ru (d + 1) kMo_add 14 [xO 9 a0, xI a1, xI a2, xI a3, xI a4, xU, xU] [xI s0] M Q := sx_ok cMo_add 11 [5, 14, 33, 39, 61, 65, 72, 76, 81, 87, 93] rfl h
theorem vMo_add_33 {d : Nat} {M : xM} {Q : xQ} {a0 a1 a2 a3 a4 a5 s0 s1 : Int}
    (h : Ru d kMo_hasIt 0 [xO 9 s1, xL s0, xU, xI a2, xI a5, xU] [] M (fun r N => Ru (d + 1) kMo_add 39 [xO 9 a0, xI a1, xI a2, xI a3, xI a4, xI a5, xU] [r] N Q)) :
    Ru (d + 1) kMo_add 33 [xO 9 a0, xI a1, xI a2, xI a3, xI a4, xI a5, xU] [xL s0, xO 9 s1] M Q := sx_ok cMo_add 4 [5, 14, 33, 39, 61, 65, 72, 76, 81, 87, 93] rfl h
theorem vMo_add_39 {d : Nat} {M : xM} {Q : xQ} {a0 a1 a2 a3 a4 a5 s0 : Int}
    (h : (s0 = 0 → (0 ≤ (0 : Int) ∧ (0 : Int) < 259) ∧ ((¬ (M (a0 + 1) 0) = 60 → Ru (d + 1) kMo_add 72 [xO 9 a0, xI a1, xI a2, xI a3, xI a4, xI a5, xU] [] M Q) ∧ (¬ (¬ (M (a0 + 1) 0) = 60) → Ru d kMo_unsigned 0 [xI a1] [] M (fun r N => Ru (d + 1) kMo_add 61 [xO 9 a0, xI a1, xI a2, xI a3, xI a4, xI a5, xU] [r, xO 9 a0] N Q)))) ∧ (¬ (s0 = 0) → Q (xI (-2)) M)) :
    Ru (d + 1) kMo_add 39 [xO 9 a0, xI a1, xI a2, xI a3, xI a4, xI a5, xU] [xI s0] M Q := sx_ok cMo_add 11 [5, 14, 33, 39, 61, 65, 72, 76, 81, 87, 93] rfl h
theorem vMo_add_61 {d : Nat} {M : xM} {Q : xQ} {a0 a1 a2 a3 a4 a5 s0 s1 : Int}
    (h : Ru d kMo_find 0 [xO 9 s1, xL s0, xU, xI a2, xU] [] M (fun r N => Ru (d + 1) kMo_add 65 [xO 9 a0, xI a1, xI a2, xI a3, xI a4, xI a5, xU] [r] N Q)) :
    Ru (d + 1) kMo_add 61 [xO 9 a0, xI a1, xI a2, xI a3, xI a4, xI a5, xU] [xL s0, xO 9 s1] M Q := sx_ok cMo_add 3 [5, 14, 33, 39, 61, 65, 72, 76, 81, 87, 93] rfl h
theorem vMo_add_65 {d : Nat} {M : xM} {Q : xQ} {a0 a1 a2 a3 a4 a5 s0 : Int}
    (h : (¬ s0 = (-1) → Ru (d + 1) kMo_add 72 [xO 9 a0, xI a1, xI a2, xI a3, xI a4, xI a5, xU] [] M Q) ∧ (¬ (¬ s0 = (-1)) → Q (xI (-3)) M)) :
    Ru (d + 1) kMo_add 65 [xO 9 a0, xI a1, xI a2, xI a3, xI a4, xI a5, xU] [xI s0] M Q := sx_ok cMo_add 5 [5, 14, 33, 39, 61, 65, 72, 76, 81, 87, 93] rfl h
theorem vMo_add_72 {d : Nat} {M : xM} {Q : xQ} {a0 a1 a2 a3 a4 a5 : Int}
    (h : Ru d kMo_keepsAct 0 [xO 9 a0, xU] [] M (fun r N => Ru (d + 1) kMo_add 76 [xO 9 a0, xI a1, xI a2, xI a3, xI a4, xI a5, xU] [] N Q)) :
    Ru (d + 1) kMo_add 72 [xO 9 a0, xI a1, xI a2, xI a3, xI a4, xI a5, xU] [] M Q := sx_ok cMo_add 3 [5, 14, 33, 39, 61, 65, 72, 76, 81, 87, 93] rfl h
theorem vMo_add_76 {d : Nat} {M : xM} {Q : xQ} {a0 a1 a2 a3 a4 a5 : Int}
    (h : Ru d kMo_unsigned 0 [xI a1] [] M (fun r N => Ru (d + 1) kMo_add 81 [xO 9 a0, xI a1, xI a2, xI a3, xI a4, xI a5, xU] [r, xO 9 a0] N Q)) :
    Ru (d + 1) kMo_add 76 [xO 9 a0, xI a1, xI a2, xI a3, xI a4, xI a5, xU] [] M Q := sx_ok cMo_add 4 [5, 14, 33, 39, 61, 65, 72, 76, 81, 87, 93] rfl h
theorem vMo_add_81 {d : Nat} {M : xM} {Q : xQ} {a0 a1 a2 a3 a4 a5 s0 s1 : Int}
    (h : Ru d kMo_puts 0 [xO 9 s1, xL s0, xU, xI a2, xI a5, xU, xU] [] M (fun r N => Ru (d + 1) kMo_add 87 [xO 9 a0, xI a1, xI a2, xI a3, xI a4, xI a5, xU] [r] N Q)) :
    Ru (d + 1) kMo_add 81 [xO 9 a0, xI a1, xI a2, xI a3, xI a4, xI a5, xU] [xL s0, xO 9 s1] M Q := sx_ok cMo_add 4 [5, 14, 33, 39, 61, 65, 72, 76, 81, 87, 93] rfl h
theorem vMo_add_87 {d : Nat} {M : xM} {Q : xQ} {a0 a1 a2 a3 a4 a5 s0 : Int}
    (h : Ru d kMo_isDone 0 [xO 9 a0] [] M (fun r N => Ru (d + 1) kMo_add 93 [xO 9 a0, xI a1, xI a2, xI a3, xI a4, xI a5, xI s0] [] N Q)) :
    Ru (d + 1) kMo_add 87 [xO 9 a0, xI a1, xI a2, xI a3, xI a4, xI a5, xU] [xI s0] M Q := sx_ok cMo_add 4 [5, 14, 33, 39, 61, 65, 72, 76, 81, 87, 93] rfl h
theorem vMo_add_93 {d : Nat} {M : xM} {Q : xQ} {a0 a1 a2 a3 a4 a5 a6 : Int}
    (h : (0 ≤ (z32 (122 + a6)) ∧ (z32 (122 + a6)) < 259) ∧ (Q (xI (M (a0 + 1) (z32 (122 + a6)))) M)) :
    Ru (d + 1) kMo_add 93 [xO 9 a0, xI a1, xI a2, xI a3, xI a4, xI a5, xI a6] [] M Q := sx_ok cMo_add 8 [5, 14, 33, 39, 61, 65, 72, 76, 81, 87, 93] rfl h
theorem vMo_withdraw_0 {d : Nat} {M : xM} {Q : xQ} {a0 a1 a2 : Int}
    (h : Ru d kMo_isBeginning 0 [xI a1, xI a2] [] M (fun r N => Ru (d + 1) kMo_withdraw 5 [xO 9 a0, xI a1, xI a2, xU] [r] N Q)) :
    Ru (d + 1) kMo_withdraw 0 [xO 9 a0, xI a1, xI a2, xU] [] M Q := sx_ok cMo_withdraw 4 [5, 15, 19, 31, 36, 40] rfl h
theorem vMo_withdraw_5 {d : Nat} {M : xM} {Q : xQ} {a0 a1 a2 s0 : Int}
    (h : (¬ s0 = 0 → Ru d kMo_unsigned 0 [xI a1] [] M (fun r N => Ru (d + 1) kMo_withdraw 15 [xO 9 a0, xI a1, xI a2, xU] [r, xO 9 a0] N Q)) ∧ (¬ (¬ s0 = 0) → Q (xI (-1)) M)) :
    Ru (d + 1) kMo_withdraw 5 [xO 9 a0, xI a1, xI a2, xU] [xI s0] M Q := sx_ok cMo_withdraw 5 [5, 15, 19, 31, 36, 40] rfl h
theorem vMo_withdraw_15 {d : Nat} {M : xM} {Q : xQ} {a0 a1 a2 s0 s1 : Int}
    (h : Ru d kMo_find 0 [xO 9 s1, xL s0, xU, xI a2, xU] [] M (fun r N => Ru (d + 1) kMo_withdraw 19 [xO 9 a0, xI a1, xI a2, xU] [r] N Q)) :
    Ru (d + 1) kMo_withdraw 15 [xO 9 a0, xI a1, xI a2, xU] [xL s0, xO 9 s1] M Q := sx_ok cMo_withdraw 3 [5, 15, 19, 31, 36, 40] rfl h
theorem vMo_withdraw_19 {d : Nat} {M : xM} {Q : xQ} {a0 a1 a2 s0 : Int}
    (h : (¬ s0 = (-1) → Ru d kMo_keepsAct 0 [xO 9 a0, xU] [] M (fun r N => Ru (d + 1) kMo_withdraw 31 [xO 9 a0, xI a1, xI a2, xI s0] [] N Q)) ∧ (¬ (¬ s0 = (-1)) → Q (xI (-1)) M)) :
    Ru (d + 1) kMo_withdraw 19 [xO 9 a0, xI a1, xI a2, xU] [xI s0] M Q := sx_ok cMo_withdraw 7 [5, 15, 19, 31, 36, 40] rfl h
theorem vMo_withdraw_31 {d : Nat} {M : xM} {Q : xQ} {a0 a1 a2 a3 : Int}
    (h : Ru d kMo_drops 0 [xO 9 a0, xI a3, xU, xU] [] M (fun r N => Ru (d + 1) kMo_withdraw 36 [xO 9 a0, xI a1, xI a2, xI a3] [] N Q)) :
    Ru (d + 1) kMo_withdraw 31 [xO 9 a0, xI a1, xI a2, xI a3] [] M Q := sx_ok cMo_withdraw 4 [5, 15, 19, 31, 36, 40] rfl h
theorem vMo_withdraw_36 {d : Nat} {M : xM} {Q : xQ} {a0 a1 a2 a3 : Int}
    (h : Ru d kMo_isDone 0 [xO 9 a0] [] M (fun r N => Ru (d + 1) kMo_withdraw 40 [xO 9 a0, xI a1, xI a2, xI a3] [] N Q)) :
    Ru (d + 1) kMo_withdraw 36 [xO 9 a0, xI a1, xI a2, xI a3] [] M Q := sx_ok cMo_withdraw 3 [5, 15, 19, 31, 36, 40] rfl h
theorem vMo_withdraw_40 {d : Nat} {M : xM} {Q : xQ} {a0 a1 a2 a3 : Int}
    (h : (0 ≤ (0 : Int) ∧ (0 : Int) < 259) ∧ (Q (xI (M (a0 + 1) 0)) M)) :
    Ru (d + 1) kMo_withdraw 40 [xO 9 a0, xI a1, xI a2, xI a3] [] M Q := sx_ok cMo_withdraw 6 [5, 15, 19, 31, 36, 40] rfl h
theorem vMo_would_0 {d : Nat} {M : xM} {Q : xQ} {a0 a1 a2 a3 a4 : Int}
    (h : Ru d kMo_isBeginning 0 [xI a1, xI a2] [] M (fun r N => Ru (d + 1) kMo_would 5 [xO 9 a0, xI a1, xI a2, xI a3, xI a4, xU, xU, xU, xU] [r] N Q)) :
    Ru (d + 1) kMo_would 0 [xO 9 a0, xI a1, xI a2, xI a3, xI a4, xU, xU, xU, xU] [] M Q := sx_ok cMo_would 4 [5, 14, 33, 39, 60, 64, 74, 112, 117, 123, 135, 139, 143, 149, 187] rfl h
theorem vMo_would_5 {d : Nat} {M : xM} {Q : xQ} {a0 a1 a2 a3 a4 s0 : Int}
    (h : (s0 = 0 → Q (xI (-1)) M) ∧ (¬ (s0 = 0) → Ru d kMo_isWay 0 [xI a3, xI a4] [] M (fun r N => Ru (d + 1) kMo_would 14 [xO 9 a0, xI a1, xI a2, xI a3, xI a4, xU, xU, xU, xU] [r] N Q))) :
    Ru (d + 1) kMo_would 5 [xO 9 a0, xI a1, xI a2, xI a3, xI a4, xU, xU, xU, xU] [xI s0] M Q := sx_ok cMo_would 5 [5, 14, 33, 39, 60, 64, 74, 112, 117, 123, 135, 139, 143, 149, 187] rfl h
theorem vMo_would_14 {d : Nat} {M : xM} {Q : xQ} {a0 a1 a2 a3 a4 s0 : Int}
    (h : (¬ s0 = 0 → Ru d kMo_unsigned 0 [xI a1] [] M (fun r N => Ru (d + 1) kMo_would 33 [xO 9 a0, xI a1, xI a2, xI a3, xI a4, xI (z32 ((z32 (10 * a3)) + a4)), xU, xU, xU] [r, xO 9 a0] N Q)) ∧ (¬ (¬ s0 = 0) → Q (xI (-1)) M)) :
    Ru (d + 1) kMo_would 14 [xO 9 a0, xI a1, xI a2, xI a3, xI a4, xU, xU, xU, xU] [xI s0] M Q := sx_ok cMo_would 11 [5, 14, 33, 39, 60, 64, 74, 112, 117, 123, 135, 139, 143, 149, 187] rfl h
theorem vMo_would_33 {d : Nat} {M : xM} {Q : xQ} {a0 a1 a2 a3 a4 a5 s0 s1 : Int}
    (h : Ru d kMo_hasIt 0 [xO 9 s1, xL s0, xU, xI a2, xI a5, xU] [] M (fun r N => Ru (d + 1) kMo_would 39 [xO 9 a0, xI a1, xI a2, xI a3, xI a4, xI a5, xU, xU, xU] [r] N Q)) :
    Ru (d + 1) kMo_would 33 [xO 9 a0, xI a1, xI a2, xI a3, xI a4, xI a5, xU, xU, xU] [xL s0, xO 9 s1] M Q := sx_ok cMo_would 4 [5, 14, 33, 39, 60, 64, 74, 112, 117, 123, 135, 139, 143, 149, 187] rfl h
theorem vMo_would_39 {d : Nat} {M : xM} {Q : xQ} {a0 a1 a2 a3 a4 a5 s0 : Int}
    (h : (s0 = 0 → (0 ≤ (0 : Int) ∧ (0 : Int) < 259) ∧ ((¬ (M (a0 + 1) 0) = 60 → Ru (d + 1) kMo_would 74 [xO 9 a0, xI a1, xI a2, xI a3, xI a4, xI a5, xI 0, xU, xU] [] M Q) ∧ (¬ (¬ (M (a0 + 1) 0) = 60) → Ru d kMo_unsigned 0 [xI a1] [] M (fun r N => Ru (d + 1) kMo_would 60 [xO 9 a0, xI a1, xI a2, xI a3, xI a4, xI a5, xU, xU, xU] [r, xO 9 a0] N Q)))) ∧ (¬ (s0 = 0) → Q (xI 0) M)) :
    Ru (d + 1) kMo_would 39 [xO 9 a0, xI a1, xI a2, xI a3, xI a4, xI a5, xU, xU, xU] [xI s0] M Q := sx_ok cMo_would 11 [5, 14, 33, 39, 60, 64, 74, 112, 117, 123, 135, 139, 143, 149, 187] rfl h
theorem vMo_would_60 {d : Nat} {M : xM} {Q : xQ} {a0 a1 a2 a3 a4 a5 s0 s1 : Int}
    (h : Ru d kMo_find 0 [xO 9 s1, xL s0, xU, xI a2, xU] [] M (fun r N => Ru (d + 1) kMo_would 64 [xO 9 a0, xI a1, xI a2, xI a3, xI a4, xI a5, xU, xU, xU] [r] N Q)) :
    Ru (d + 1) kMo_would 60 [xO 9 a0, xI a1, xI a2, xI a3, xI a4, xI a5, xU, xU, xU] [xL s0, xO 9 s1] M Q := sx_ok cMo_would 3 [5, 14, 33, 39, 60, 64, 74, 112, 117, 123, 135, 139, 143, 149, 187] rfl h
theorem vMo_would_64 {d : Nat} {M : xM} {Q : xQ} {a0 a1 a2 a3 a4 a5 s0 : Int}
    (h : (¬ s0 = (-1) → Ru (d + 1) kMo_would 74 [xO 9 a0, xI a1, xI a2, xI a3, xI a4, xI a5, xI 0, xU, xU] [] M Q) ∧ (¬ (¬ s0 = (-1)) → Q (xI (-3)) M)) :
    Ru (d + 1) kMo_would 64 [xO 9 a0, xI a1, xI a2, xI a3, xI a4, xI a5, xU, xU, xU] [xI s0] M Q := sx_ok cMo_would 5 [5, 14, 33, 39, 60, 64, 74, 112, 117, 123, 135, 139, 143, 149, 187] rfl h
theorem vMo_would_74 {d : Nat} {M : xM} {Q : xQ} {a0 a1 a2 a3 a4 a5 a6 : Int}
    (h : (259 ≤ a6 → Ru d kMo_laysTable 0 [xO 9 a0, xI 1, xAI 259 (a0 + 18), xI 0, xU, xU, xU] [] M (fun r N => Ru (d + 1) kMo_would 112 [xO 9 a0, xI a1, xI a2, xI a3, xI a4, xI a5, xI a6, xU, xU] [] N Q)) ∧ (¬ (259 ≤ a6) → (0 ≤ a6 ∧ a6 < 259) ∧ ((0 ≤ a6 ∧ a6 < 259) ∧ (Ru (d + 1) kMo_would 74 [xO 9 a0, xI a1, xI a2, xI a3, xI a4, xI a5, xI (z32 (a6 + 1)), xU, xU] [] (up M (a0 + 18) a6 (M (a0 + 1) a6)) Q)))) :
    Ru (d + 1) kMo_would 74 [xO 9 a0, xI a1, xI a2, xI a3, xI a4, xI a5, xI a6, xU, xU] [] M Q := sx_ok cMo_would 14 [5, 14, 33, 39, 60, 64, 74, 112, 117, 123, 135, 139, 143, 149, 187] rfl h
theorem vMo_would_112 {d : Nat} {M : xM} {Q : xQ} {a0 a1 a2 a3 a4 a5 a6 : Int}
    (h : Ru d kMo_unsigned 0 [xI a1] [] M (fun r N => Ru (d + 1) kMo_would 117 [xO 9 a0, xI a1, xI a2, xI a3, xI a4, xI a5, xI a6, xU, xU] [r, xO 9 a0] N Q)) :
    Ru (d + 1) kMo_would 112 [xO 9 a0, xI a1, xI a2, xI a3, xI a4, xI a5, xI a6, xU, xU] [] M Q := sx_ok cMo_would 4 [5, 14, 33, 39, 60, 64, 74, 112, 117, 123, 135, 139, 143, 149, 187] rfl h
theorem vMo_would_117 {d : Nat} {M : xM} {Q : xQ} {a0 a1 a2 a3 a4 a5 a6 s0 s1 : Int}
    (h : Ru d kMo_puts 0 [xO 9 s1, xL s0, xU, xI a2, xI a5, xU, xU] [] M (fun r N => Ru (d + 1) kMo_would 123 [xO 9 a0, xI a1, xI a2, xI a3, xI a4, xI a5, xI a6, xU, xU] [r] N Q)) :
    Ru (d + 1) kMo_would 117 [xO 9 a0, xI a1, xI a2, xI a3, xI a4, xI a5, xI a6, xU, xU] [xL s0, xO 9 s1] M Q := sx_ok cMo_would 4 [5, 14, 33, 39, 60, 64, 74, 112, 117, 123, 135, 139, 143, 149, 187] rfl h
theorem vMo_would_123 {d : Nat} {M : xM} {Q : xQ} {a0 a1 a2 a3 a4 a5 a6 s0 : Int}
    (h : Ru d kMo_laysTable 0 [xO 9 a0, xI 0, xAI 259 (a0 + 1), xI 0, xU, xU, xU] [] M (fun r N => Ru (d + 1) kMo_would 135 [xO 9 a0, xI a1, xI a2, xI a3, xI a4, xI a5, xI s0, xU, xU] [] N Q)) :
    Ru (d + 1) kMo_would 123 [xO 9 a0, xI a1, xI a2, xI a3, xI a4, xI a5, xI a6, xU, xU] [xI s0] M Q := sx_ok cMo_would 8 [5, 14, 33, 39, 60, 64, 74, 112, 117, 123, 135, 139, 143, 149, 187] rfl h
theorem vMo_would_135 {d : Nat} {M : xM} {Q : xQ} {a0 a1 a2 a3 a4 a5 a6 : Int}
    (h : Ru d kMo_othersNow 0 [xO 9 a0, xU, xU] [] M (fun r N => Ru (d + 1) kMo_would 139 [xO 9 a0, xI a1, xI a2, xI a3, xI a4, xI a5, xI a6, xU, xU] [r] N Q)) :
    Ru (d + 1) kMo_would 135 [xO 9 a0, xI a1, xI a2, xI a3, xI a4, xI a5, xI a6, xU, xU] [] M Q := sx_ok cMo_would 3 [5, 14, 33, 39, 60, 64, 74, 112, 117, 123, 135, 139, 143, 149, 187] rfl h
theorem vMo_would_139 {d : Nat} {M : xM} {Q : xQ} {a0 a1 a2 a3 a4 a5 a6 s0 : Int}
    (h : Ru d kMo_goneNow 0 [xO 9 a0, xU, xU, xU, xU, xU, xU, xU, xU, xU, xU, xU] [] M (fun r N => Ru (d + 1) kMo_would 143 [xO 9 a0, xI a1, xI a2, xI a3, xI a4, xI a5, xI a6, xU, xU] [r, xI s0] N Q)) :
    Ru (d + 1) kMo_would 139 [xO 9 a0, xI a1, xI a2, xI a3, xI a4, xI a5, xI a6, xU, xU] [xI s0] M Q := sx_ok cMo_would 3 [5, 14, 33, 39, 60, 64, 74, 112, 117, 123, 135, 139, 143, 149, 187] rfl h
theorem vMo_would_143 {d : Nat} {M : xM} {Q : xQ} {a0 a1 a2 a3 a4 a5 a6 s0 s1 : Int}
    (h : Ru (d + 1) kMo_would 149 [xO 9 a0, xI a1, xI a2, xI a3, xI a4, xI a5, xI a6, xI (z32 (s1 + s0)), xI 0] [] M Q) :
    Ru (d + 1) kMo_would 143 [xO 9 a0, xI a1, xI a2, xI a3, xI a4, xI a5, xI a6, xU, xU] [xI s0, xI s1] M Q := sx_ok cMo_would 5 [5, 14, 33, 39, 60, 64, 74, 112, 117, 123, 135, 139, 143, 149, 187] rfl h
theorem vMo_would_149 {d : Nat} {M : xM} {Q : xQ} {a0 a1 a2 a3 a4 a5 a6 a7 a8 : Int}
    (h : (259 ≤ a8 → Ru d kMo_laysTable 0 [xO 9 a0, xI 0, xAI 259 (a0 + 1), xI 0, xU, xU, xU] [] M (fun r N => Ru (d + 1) kMo_would 187 [xO 9 a0, xI a1, xI a2, xI a3, xI a4, xI a5, xI a6, xI a7, xI a8] [] N Q)) ∧ (¬ (259 ≤ a8) → (0 ≤ a8 ∧ a8 < 259) ∧ ((0 ≤ a8 ∧ a8 < 259) ∧ (Ru (d + 1) kMo_would 149 [xO 9 a0, xI a1, xI a2, xI a3, xI a4, xI a5, xI a6, xI a7, xI (z32 (a8 + 1))] [] (up M (a0 + 1) a8 (M (a0 + 18) a8)) Q)))) :
    Ru (d + 1) kMo_would 149 [xO 9 a0, xI a1, xI a2, xI a3, xI a4, xI a5, xI a6, xI a7, xI a8] [] M Q := sx_ok cMo_would 14 [5, 14, 33, 39, 60, 64, 74, 112, 117, 123, 135, 139, 143, 149, 187] rfl h
theorem vMo_would_187 {d : Nat} {M : xM} {Q : xQ} {a0 a1 a2 a3 a4 a5 a6 a7 a8 : Int}
    (h : Q (xI a7) M) :
    Ru (d + 1) kMo_would 187 [xO 9 a0, xI a1, xI a2, xI a3, xI a4, xI a5, xI a6, xI a7, xI a8] [] M Q := sx_ok cMo_would 3 [5, 14, 33, 39, 60, 64, 74, 112, 117, 123, 135, 139, 143, 149, 187] rfl h
theorem vMo_covers_0 {d : Nat} {M : xM} {Q : xQ} {a0 a1 a2 : Int}
    (h : Ru d kMo_unsigned 0 [xI a1] [] M (fun r N => Ru (d + 1) kMo_covers 4 [xO 9 a0, xI a1, xI a2, xU, xU, xU, xU, xU] [r] N Q)) :
    Ru (d + 1) kMo_covers 0 [xO 9 a0, xI a1, xI a2, xU, xU, xU, xU, xU] [] M Q := sx_ok cMo_covers 3 [4, 9, 27, 38, 51, 65, 78, 115] rfl h
theorem vMo_covers_4 {d : Nat} {M : xM} {Q : xQ} {a0 a1 a2 s0 : Int}
    (h : Ru d kMo_unsigned 0 [xI a2] [] M (fun r N => Ru (d + 1) kMo_covers 9 [xO 9 a0, xI a1, xI a2, xL s0, xU, xU, xU, xU] [r] N Q)) :
    Ru (d + 1) kMo_covers 4 [xO 9 a0, xI a1, xI a2, xU, xU, xU, xU, xU] [xL s0] M Q := sx_ok cMo_covers 4 [4, 9, 27, 38, 51, 65, 78, 115] rfl h
theorem vMo_covers_9 {d : Nat} {M : xM} {Q : xQ} {a0 a1 a2 a3 s0 : Int}
    (h : (a3 < (z64 (s0 + 1)) → Ru (d + 1) kMo_covers 27 [xO 9 a0, xI a1, xI a2, xL a3, xU, xL (z64 (s0 + 1)), xU, xU] [] (up M a0 29 0) Q) ∧ (¬ (a3 < (z64 (s0 + 1))) → Q (xI 0) (up M a0 29 0))) :
    Ru (d + 1) kMo_covers 9 [xO 9 a0, xI a1, xI a2, xL a3, xU, xU, xU, xU] [xL s0] M Q := sx_ok cMo_covers 12 [4, 9, 27, 38, 51, 65, 78, 115] rfl h
theorem vMo_covers_27 {d : Nat} {M : xM} {Q : xQ} {a0 a1 a2 a3 a5 : Int} {w7 : xV}
    (h : (a5 ≤ a3 → Q (xI 1) M) ∧ (¬ (a5 ≤ a3) → Ru (d + 1) kMo_covers 38 [xO 9 a0, xI a1, xI a2, xL a3, xU, xL a5, xU, xI 32] [] M Q)) :
    Ru (d + 1) kMo_covers 27 [xO 9 a0, xI a1, xI a2, xL a3, xU, xL a5, xU, w7] [] M Q := sx_ok cMo_covers 6 [4, 9, 27, 38, 51, 65, 78, 115] rfl h
theorem vMo_covers_38 {d : Nat} {M : xM} {Q : xQ} {a0 a1 a2 a3 a5 a7 : Int}
    (h : (a7 ≤ 0 → Ru (d + 1) kMo_covers 78 [xO 9 a0, xI a1, xI a2, xL a3, xU, xL a5, xU, xI a7] [] M Q) ∧ (¬ (a7 ≤ 0) → Ru d kMo_sizeOf 0 [xI (z32 (a7 - 1))] [] M (fun r N => Ru (d + 1) kMo_covers 51 [xO 9 a0, xI a1, xI a2, xL a3, xU, xL a5, xU, xI a7] [r, xL a3] N Q))) :
    Ru (d + 1) kMo_covers 38 [xO 9 a0, xI a1, xI a2, xL a3, xU, xL a5, xU, xI a7] [] M Q := sx_ok cMo_covers 8 [4, 9, 27, 38, 51, 65, 78, 115] rfl h
theorem vMo_covers_51 {d : Nat} {M : xM} {Q : xQ} {a0 a1 a2 a3 a5 a7 s0 s1 : Int}
    (h : ¬ s0 = 0 ∧ ((¬ (lrem s1 s0) = 0 → Ru (d + 1) kMo_covers 78 [xO 9 a0, xI a1, xI a2, xL a3, xU, xL a5, xU, xI a7] [] M Q) ∧ (¬ (¬ (lrem s1 s0) = 0) → Ru d kMo_sizeOf 0 [xI (z32 (a7 - 1))] [] M (fun r N => Ru (d + 1) kMo_covers 65 [xO 9 a0, xI a1, xI a2, xL a3, xU, xL a5, xU, xI a7] [r, xL a3] N Q)))) :
    Ru (d + 1) kMo_covers 51 [xO 9 a0, xI a1, xI a2, xL a3, xU, xL a5, xU, xI a7] [xL s0, xL s1] M Q := sx_ok cMo_covers 9 [4, 9, 27, 38, 51, 65, 78, 115] rfl h
theorem vMo_covers_65 {d : Nat} {M : xM} {Q : xQ} {a0 a1 a2 a3 a5 a7 s0 s1 : Int}
    (h : (a5 < (z64 (s1 + s0)) → Ru (d + 1) kMo_covers 78 [xO 9 a0, xI a1, xI a2, xL a3, xU, xL a5, xU, xI a7] [] M Q) ∧ (¬ (a5 < (z64 (s1 + s0))) → Ru (d + 1) kMo_covers 38 [xO 9 a0, xI a1, xI a2, xL a3, xU, xL a5, xU, xI (z32 (a7 + (-1)))] [] M Q)) :
    Ru (d + 1) kMo_covers 65 [xO 9 a0, xI a1, xI a2, xL a3, xU, xL a5, xU, xI a7] [xL s0, xL s1] M Q := sx_ok cMo_covers 6 [4, 9, 27, 38, 51, 65, 78, 115] rfl h
theorem vMo_covers_78 {d : Nat} {M : xM} {Q : xQ} {a0 a1 a2 a3 a5 a7 : Int}
    (h : (0 ≤ (M a0 29) ∧ (M a0 29) < 64) ∧ ((0 ≤ ((up M (a0 + 19) (M a0 29) a3) a0 29) ∧ ((up M (a0 + 19) (M a0 29) a3) a0 29) < 64) ∧ (Ru d kMo_sizeOf 0 [xI a7] [] (up (up (up M (a0 + 19) (M a0 29) a3) (a0 + 20) ((up M (a0 + 19) (M a0 29) a3) a0 29) a7) a0 29 (z32 (((up (up M (a0 + 19) (M a0 29) a3) (a0 + 20) ((up M (a0 + 19) (M a0 29) a3) a0 29) a7) a0 29) + 1))) (fun r N => Ru (d + 1) kMo_covers 115 [xO 9 a0, xI a1, xI a2, xL a3, xU, xL a5, xU, xI a7] [r, xL a3] N Q)))) :
    Ru (d + 1) kMo_covers 78 [xO 9 a0, xI a1, xI a2, xL a3, xU, xL a5, xU, xI a7] [] M Q := sx_ok cMo_covers 22 [4, 9, 27, 38, 51, 65, 78, 115] rfl h
theorem vMo_covers_115 {d : Nat} {M : xM} {Q : xQ} {a0 a1 a2 a3 a5 a7 s0 s1 : Int}
    (h : Ru (d + 1) kMo_covers 27 [xO 9 a0, xI a1, xI a2, xL (z64 (s1 + s0)), xU, xL a5, xU, xI a7] [] M Q) :
    Ru (d + 1) kMo_covers 115 [xO 9 a0, xI a1, xI a2, xL a3, xU, xL a5, xU, xI a7] [xL s0, xL s1] M Q := sx_ok cMo_covers 4 [4, 9, 27, 38, 51, 65, 78, 115] rfl h
theorem vMo_cover_0 {d : Nat} {M : xM} {Q : xQ} {a0 a1 a2 a3 a4 : Int}
    (h : Ru d kMo_covers 0 [xO 9 a0, xI a1, xI a2, xU, xU, xU, xU, xU] [] M (fun r N => Ru (d + 1) kMo_cover 6 [xO 9 a0, xI a1, xI a2, xI a3, xI a4] [r] N Q)) :
    Ru (d + 1) kMo_cover 0 [xO 9 a0, xI a1, xI a2, xI a3, xI a4] [] M Q := sx_ok cMo_cover 5 [6, 48, 59] rfl h
theorem vMo_cover_6 {d : Nat} {M : xM} {Q : xQ} {a0 a1 a2 a3 a4 s0 : Int}
    (h : (¬ s0 = 0 → (¬ a3 = (-1) → Ru d kMo_isIn 0 [xL a3, xU, xL 0, xU, xL (z32 ((M a0 29) - 1)), xU] [] M (fun r N => Ru (d + 1) kMo_cover 48 [xO 9 a0, xI a1, xI a2, xI a3, xI a4] [r] N Q)) ∧ (¬ (¬ a3 = (-1)) → (¬ a4 = 0 → Q (xL (-2)) M) ∧ (¬ (¬ a4 = 0) → Q (xL (M a0 29)) M))) ∧ (¬ (¬ s0 = 0) → Q (xL (-2)) M)) :
    Ru (d + 1) kMo_cover 6 [xO 9 a0, xI a1, xI a2, xI a3, xI a4] [xI s0] M Q := sx_ok cMo_cover 14 [6, 48, 59] rfl h
theorem vMo_cover_48 {d : Nat} {M : xM} {Q : xQ} {a0 a1 a2 a3 a4 s0 : Int}
    (h : (s0 = 0 → Q (xL (-2)) M) ∧ (¬ (s0 = 0) → Ru d kMo_isIn 0 [xL a4, xU, xL 0, xU, xL 1, xU] [] M (fun r N => Ru (d + 1) kMo_cover 59 [xO 9 a0, xI a1, xI a2, xI a3, xI a4] [r] N Q))) :
    Ru (d + 1) kMo_cover 48 [xO 9 a0, xI a1, xI a2, xI a3, xI a4] [xI s0] M Q := sx_ok cMo_cover 7 [6, 48, 59] rfl h
theorem vMo_cover_59 {d : Nat} {M : xM} {Q : xQ} {a0 a1 a2 a3 a4 s0 : Int}
    (h : (¬ s0 = 0 → (¬ a4 = 0 → (0 ≤ a3 ∧ a3 < 64) ∧ (Q (xL (M (a0 + 19) a3)) M)) ∧ (¬ (¬ a4 = 0) → (0 ≤ a3 ∧ a3 < 64) ∧ (Q (xL (M (a0 + 20) a3)) M))) ∧ (¬ (¬ s0 = 0) → Q (xL (-2)) M)) :
    Ru (d + 1) kMo_cover 59 [xO 9 a0, xI a1, xI a2, xI a3, xI a4] [xI s0] M Q := sx_ok cMo_cover 11 [6, 48, 59] rfl h
theorem vMo_range_0 {d : Nat} {M : xM} {Q : xQ} {a0 a1 a2 a3 a4 : Int}
    (h : Ru d kMo_isWay 0 [xI a3, xI a4] [] M (fun r N => Ru (d + 1) kMo_range 6 [xO 9 a0, xI a1, xI a2, xI a3, xI a4, xU, xU, xU, xU, xU] [r] N Q)) :
    Ru (d + 1) kMo_range 0 [xO 9 a0, xI a1, xI a2, xI a3, xI a4, xU, xU, xU, xU, xU] [] M Q := sx_ok cMo_range 4 [6, 15, 38, 72, 79, 102, 149, 152, 181, 193] rfl h
theorem vMo_range_6 {d : Nat} {M : xM} {Q : xQ} {a0 a1 a2 a3 a4 s0 : Int}
    (h : (s0 = 0 → Q (xI (-1)) M) ∧ (¬ (s0 = 0) → Ru d kMo_covers 0 [xO 9 a0, xI a1, xI a2, xU, xU, xU, xU, xU] [] M (fun r N => Ru (d + 1) kMo_range 15 [xO 9 a0, xI a1, xI a2, xI a3, xI a4, xU, xU, xU, xU, xU] [r] N Q))) :
    Ru (d + 1) kMo_range 6 [xO 9 a0, xI a1, xI a2, xI a3, xI a4, xU, xU, xU, xU, xU] [xI s0] M Q := sx_ok cMo_range 6 [6, 15, 38, 72, 79, 102, 149, 152, 181, 193] rfl h
theorem vMo_range_15 {d : Nat} {M : xM} {Q : xQ} {a0 a1 a2 a3 a4 s0 : Int}
    (h : (¬ s0 = 0 → Ru (d + 1) kMo_range 38 [xO 9 a0, xI a1, xI a2, xI a3, xI a4, xI (z32 ((z32 (10 * a3)) + a4)), xI 1, xI 0, xI 0, xU] [] M Q) ∧ (¬ (¬ s0 = 0) → Q (xI (-1)) M)) :
    Ru (d + 1) kMo_range 15 [xO 9 a0, xI a1, xI a2, xI a3, xI a4, xU, xU, xU, xU, xU] [xI s0] M Q := sx_ok cMo_range 14 [6, 15, 38, 72, 79, 102, 149, 152, 181, 193] rfl h
theorem vMo_range_38 {d : Nat} {M : xM} {Q : xQ} {a0 a1 a2 a3 a4 a5 a6 a7 a8 : Int}
    (h : ((M a0 29) ≤ a8 → (a6 = 0 → (0 ≤ (0 : Int) ∧ (0 : Int) < 259) ∧ (((z32 ((M (a0 + 1) 0) + a7)) ≤ 60 → Ru d kMo_keepsAct 0 [xO 9 a0, xU] [] M (fun r N => Ru (d + 1) kMo_range 149 [xO 9 a0, xI a1, xI a2, xI a3, xI a4, xI a5, xI a6, xI a7, xI a8, xU] [] N Q)) ∧ (¬ ((z32 ((M (a0 + 1) 0) + a7)) ≤ 60) → Q (xI (-3)) M))) ∧ (¬ (a6 = 0) → Q (xI (-2)) M)) ∧ (¬ ((M a0 29) ≤ a8) → (a6 = 0 → Ru (d + 1) kMo_range 79 [xO 9 a0, xI a1, xI a2, xI a3, xI a4, xI a5, xI a6, xI a7, xI a8, xU] [] M Q) ∧ (¬ (a6 = 0) → (0 ≤ a8 ∧ a8 < 64) ∧ ((0 ≤ a8 ∧ a8 < 64) ∧ (Ru d kMo_hasIt 0 [xO 9 a0, xL (M (a0 + 19) a8), xU, xI (M (a0 + 20) a8), xI a5, xU] [] M (fun r N => Ru (d + 1) kMo_range 72 [xO 9 a0, xI a1, xI a2, xI a3, xI a4, xI a5, xI a6, xI a7, xI a8, xU] [r] N Q)))))) :
    Ru (d + 1) kMo_range 38 [xO 9 a0, xI a1, xI a2, xI a3, xI a4, xI a5, xI a6, xI a7, xI a8, xU] [] M Q := sx_ok cMo_range 18 [6, 15, 38, 72, 79, 102, 149, 152, 181, 193] rfl h
theorem vMo_range_72 {d : Nat} {M : xM} {Q : xQ} {a0 a1 a2 a3 a4 a5 a6 a7 a8 s0 : Int}
    (h : (s0 = 0 → Ru (d + 1) kMo_range 79 [xO 9 a0, xI a1, xI a2, xI a3, xI a4, xI a5, xI a6, xI a7, xI a8, xU] [] M Q) ∧ (¬ (s0 = 0) → (0 ≤ a8 ∧ a8 < 64) ∧ ((0 ≤ a8 ∧ a8 < 64) ∧ (Ru d kMo_find 0 [xO 9 a0, xL (M (a0 + 19) a8), xU, xI (M (a0 + 20) a8), xU] [] M (fun r N => Ru (d + 1) kMo_range 102 [xO 9 a0, xI a1, xI a2, xI a3, xI a4, xI a5, xI 1, xI a7, xI a8, xU] [r, xI a7] N Q))))) :
    Ru (d + 1) kMo_range 72 [xO 9 a0, xI a1, xI a2, xI a3, xI a4, xI a5, xI a6, xI a7, xI a8, xU] [xI s0] M Q := sx_ok cMo_range 16 [6, 15, 38, 72, 79, 102, 149, 152, 181, 193] rfl h
theorem vMo_range_79 {d : Nat} {M : xM} {Q : xQ} {a0 a1 a2 a3 a4 a5 a6 a7 a8 : Int}
    (h : (0 ≤ a8 ∧ a8 < 64) ∧ ((0 ≤ a8 ∧ a8 < 64) ∧ (Ru d kMo_find 0 [xO 9 a0, xL (M (a0 + 19) a8), xU, xI (M (a0 + 20) a8), xU] [] M (fun r N => Ru (d + 1) kMo_range 102 [xO 9 a0, xI a1, xI a2, xI a3, xI a4, xI a5, xI 0, xI a7, xI a8, xU] [r, xI a7] N Q)))) :
    Ru (d + 1) kMo_range 79 [xO 9 a0, xI a1, xI a2, xI a3, xI a4, xI a5, xI a6, xI a7, xI a8, xU] [] M Q := sx_ok cMo_range 14 [6, 15, 38, 72, 79, 102, 149, 152, 181, 193] rfl h
theorem vMo_range_102 {d : Nat} {M : xM} {Q : xQ} {a0 a1 a2 a3 a4 a5 a6 a7 a8 s0 s1 : Int}
    (h : (¬ s0 = (-1) → Ru (d + 1) kMo_range 38 [xO 9 a0, xI a1, xI a2, xI a3, xI a4, xI a5, xI a6, xI (z32 (s1 + 0)), xI (z32 (a8 + 1)), xU] [] M Q) ∧ (¬ (¬ s0 = (-1)) → Ru (d + 1) kMo_range 38 [xO 9 a0, xI a1, xI a2, xI a3, xI a4, xI a5, xI a6, xI (z32 (s1 + 1)), xI (z32 (a8 + 1)), xU] [] M Q)) :
    Ru (d + 1) kMo_range 102 [xO 9 a0, xI a1, xI a2, xI a3, xI a4, xI a5, xI a6, xI a7, xI a8, xU] [xI s0, xI s1] M Q := sx_ok cMo_range 9 [6, 15, 38, 72, 79, 102, 149, 152, 181, 193] rfl h
theorem vMo_range_149 {d : Nat} {M : xM} {Q : xQ} {a0 a1 a2 a3 a4 a5 a6 a7 a8 : Int}
    (h : Ru (d + 1) kMo_range 152 [xO 9 a0, xI a1, xI a2, xI a3, xI a4, xI a5, xI a6, xI a7, xI 0, xU] [] M Q) :
    Ru (d + 1) kMo_range 149 [xO 9 a0, xI a1, xI a2, xI a3, xI a4, xI a5, xI a6, xI a7, xI a8, xU] [] M Q := sx_ok cMo_range 3 [6, 15, 38, 72, 79, 102, 149, 152, 181, 193] rfl h
theorem vMo_range_152 {d : Nat} {M : xM} {Q : xQ} {a0 a1 a2 a3 a4 a5 a6 a7 a8 : Int} {w9 : xV}
    (h : ((M a0 29) ≤ a8 → Ru d kMo_isDone 0 [xO 9 a0] [] M (fun r N => Ru (d + 1) kMo_range 193 [xO 9 a0, xI a1, xI a2, xI a3, xI a4, xI a5, xI a6, xI a7, xI a8, w9] [] N Q)) ∧ (¬ ((M a0 29) ≤ a8) → (0 ≤ a8 ∧ a8 < 64) ∧ ((0 ≤ a8 ∧ a8 < 64) ∧ (Ru d kMo_puts 0 [xO 9 a0, xL (M (a0 + 19) a8), xU, xI (M (a0 + 20) a8), xI a5, xU, xU] [] M (fun r N => Ru (d + 1) kMo_range 181 [xO 9 a0, xI a1, xI a2, xI a3, xI a4, xI a5, xI a6, xI a7, xI a8, w9] [r] N Q))))) :
    Ru (d + 1) kMo_range 152 [xO 9 a0, xI a1, xI a2, xI a3, xI a4, xI a5, xI a6, xI a7, xI a8, w9] [] M Q := sx_ok cMo_range 16 [6, 15, 38, 72, 79, 102, 149, 152, 181, 193] rfl h
theorem vMo_range_181 {d : Nat} {M : xM} {Q : xQ} {a0 a1 a2 a3 a4 a5 a6 a7 a8 s0 : Int} {w9 : xV}
    (h : Ru (d + 1) kMo_range 152 [xO 9 a0, xI a1, xI a2, xI a3, xI a4, xI a5, xI a6, xI a7, xI (z32 (a8 + 1)), xI s0] [] M Q) :
    Ru (d + 1) kMo_range 181 [xO 9 a0, xI a1, xI a2, xI a3, xI a4, xI a5, xI a6, xI a7, xI a8, w9] [xI s0] M Q := sx_ok cMo_range 4 [6, 15, 38, 72, 79, 102, 149, 152, 181, 193] rfl h
theorem vMo_range_193 {d : Nat} {M : xM} {Q : xQ} {a0 a1 a2 a3 a4 a5 a6 a7 a8 : Int} {w9 : xV}
    (h : Q (xI (M a0 29)) M) :
    Ru (d + 1) kMo_range 193 [xO 9 a0, xI a1, xI a2, xI a3, xI a4, xI a5, xI a6, xI a7, xI a8, w9] [] M Q := sx_ok cMo_range 4 [6, 15, 38, 72, 79, 102, 149, 152, 181, 193] rfl h
theorem vMo_addsStride_0 {d : Nat} {M : xM} {Q : xQ} {a0 a1 : Int}
    (h : Ru (d + 1) kMo_addsStride 4 [xO 9 a0, xI a1, xI a1, xI 0] [] M Q) :
    Ru (d + 1) kMo_addsStride 0 [xO 9 a0, xI a1, xU, xU] [] M Q := sx_ok cMo_addsStride 5 [4, 38] rfl h
theorem vMo_addsStride_4 {d : Nat} {M : xM} {Q : xQ} {a0 a1 a2 a3 : Int}
    (h : ((M a0 32) ≤ a3 → Ru d kMo_isIn 0 [xL a1, xU, xL 2, xU, xL 6, xU] [] M (fun r N => Ru (d + 1) kMo_addsStride 38 [xO 9 a0, xI a1, xI a2, xI a3] [r] N Q)) ∧ (¬ ((M a0 32) ≤ a3) → (0 ≤ a3 ∧ a3 < 24) ∧ (Ru (d + 1) kMo_addsStride 4 [xO 9 a0, xI a1, xI (z32 (a2 + (M (a0 + 21) a3))), xI (z32 (a3 + 1))] [] M Q))) :
    Ru (d + 1) kMo_addsStride 4 [xO 9 a0, xI a1, xI a2, xI a3] [] M Q := sx_ok cMo_addsStride 14 [4, 38] rfl h
theorem vMo_addsStride_38 {d : Nat} {M : xM} {Q : xQ} {a0 a1 a2 a3 s0 : Int}
    (h : (s0 = 0 → Q (xI 0) M) ∧ (¬ (s0 = 0) → (a2 ≤ 32 → (0 ≤ (M a0 32) ∧ (M a0 32) < 24) ∧ (Q (xI 1) (up (up M (a0 + 21) (M a0 32) a1) a0 32 (z32 (((up M (a0 + 21) (M a0 32) a1) a0 32) + 1))))) ∧ (¬ (a2 ≤ 32) → Q (xI 0) M))) :
    Ru (d + 1) kMo_addsStride 38 [xO 9 a0, xI a1, xI a2, xI a3] [xI s0] M Q := sx_ok cMo_addsStride 19 [4, 38] rfl h
theorem vMo_strideSum_0 {d : Nat} {M : xM} {Q : xQ} {a0 : Int}
    (h : Ru d kMo_strideSum 4 [xO 9 a0, xI 0, xI 0] [] M Q) :
    Ru d kMo_strideSum 0 [xO 9 a0, xU, xU] [] M Q := sx_ok cMo_strideSum 5 [4] rfl h
theorem vMo_strideSum_4 {d : Nat} {M : xM} {Q : xQ} {a0 a1 a2 : Int}
    (h : ((M a0 32) ≤ a2 → Q (xI a1) M) ∧ (¬ ((M a0 32) ≤ a2) → (0 ≤ a2 ∧ a2 < 24) ∧ (Ru d kMo_strideSum 4 [xO 9 a0, xI (z32 (a1 + (M (a0 + 21) a2))), xI (z32 (a2 + 1))] [] M Q))) :
    Ru d kMo_strideSum 4 [xO 9 a0, xI a1, xI a2] [] M Q := sx_ok cMo_strideSum 14 [4] rfl h
theorem vMo_takesStrides_0 {d : Nat} {M : xM} {Q : xQ} {a0 : Int}
    (h : (0 ≤ (1 : Int) ∧ (1 : Int) < 259) ∧ (Ru d kMo_takesStrides 12 [xO 9 a0, xI 0] [] (up M (a0 + 1) 1 (M a0 32)) Q)) :
    Ru d kMo_takesStrides 0 [xO 9 a0, xU] [] M Q := sx_ok cMo_takesStrides 9 [12] rfl h
theorem vMo_takesStrides_12 {d : Nat} {M : xM} {Q : xQ} {a0 a1 : Int}
    (h : (16 ≤ a1 → Q xU M) ∧ (¬ (16 ≤ a1) → ((M a0 32) ≤ a1 → (0 ≤ (z32 (243 + a1)) ∧ (z32 (243 + a1)) < 259) ∧ (Ru d kMo_takesStrides 12 [xO 9 a0, xI (z32 (a1 + 1))] [] (up M (a0 + 1) (z32 (243 + a1)) 0) Q)) ∧ (¬ ((M a0 32) ≤ a1) → (0 ≤ a1 ∧ a1 < 24) ∧ ((0 ≤ (z32 (243 + a1)) ∧ (z32 (243 + a1)) < 259) ∧ (Ru d kMo_takesStrides 12 [xO 9 a0, xI (z32 (a1 + 1))] [] (up M (a0 + 1) (z32 (243 + a1)) (M (a0 + 21) a1)) Q))))) :
    Ru d kMo_takesStrides 12 [xO 9 a0, xI a1] [] M Q := sx_ok cMo_takesStrides 21 [12] rfl h
theorem vMo_readsDigits_0 {d : Nat} {M : xM} {Q : xQ} {a0 a1 : Int}
    (h : Ru (d + 1) kMo_readsDigits 2 [xO 9 a0, xL a1, xU, xL 1, xU, xU, xU] [] M Q) :
    Ru (d + 1) kMo_readsDigits 0 [xO 9 a0, xL a1, xU, xU, xU, xU, xU] [] M Q := sx_ok cMo_readsDigits 3 [2, 29, 49, 69] rfl h
theorem vMo_readsDigits_2 {d : Nat} {M : xM} {Q : xQ} {a0 a1 a3 : Int}
    (h : ¬ a3 = 0 ∧ (((ldiv a1 a3) ≤ 9 → Ru (d + 1) kMo_readsDigits 29 [xO 9 a0, xL a1, xU, xL a3, xU, xL a3, xU] [] (up M a0 32 0) Q) ∧ (¬ ((ldiv a1 a3) ≤ 9) → Ru (d + 1) kMo_readsDigits 2 [xO 9 a0, xL a1, xU, xL (z64 (a3 * 10)), xU, xU, xU] [] M Q))) :
    Ru (d + 1) kMo_readsDigits 2 [xO 9 a0, xL a1, xU, xL a3, xU, xU, xU] [] M Q := sx_ok cMo_readsDigits 11 [2, 29, 49, 69] rfl h
theorem vMo_readsDigits_29 {d : Nat} {M : xM} {Q : xQ} {a0 a1 a3 a5 : Int}
    (h : (a5 ≤ 0 → Ru d kMo_strideSum 0 [xO 9 a0, xU, xU] [] M (fun r N => Ru (d + 1) kMo_readsDigits 69 [xO 9 a0, xL a1, xU, xL a3, xU, xL a5, xU] [r] N Q)) ∧ (¬ (a5 ≤ 0) → ¬ a5 = 0 ∧ (¬ (10 : Int) = 0 ∧ (Ru d kMo_addsStride 0 [xO 9 a0, xI (z32 (lrem (ldiv a1 a5) 10)), xU, xU] [] M (fun r N => Ru (d + 1) kMo_readsDigits 49 [xO 9 a0, xL a1, xU, xL a3, xU, xL a5, xU] [r] N Q))))) :
    Ru (d + 1) kMo_readsDigits 29 [xO 9 a0, xL a1, xU, xL a3, xU, xL a5, xU] [] M Q := sx_ok cMo_readsDigits 12 [2, 29, 49, 69] rfl h
theorem vMo_readsDigits_49 {d : Nat} {M : xM} {Q : xQ} {a0 a1 a3 a5 s0 : Int}
    (h : (¬ s0 = 0 → ¬ (10 : Int) = 0 ∧ (Ru (d + 1) kMo_readsDigits 29 [xO 9 a0, xL a1, xU, xL a3, xU, xL (ldiv a5 10), xU] [] M Q)) ∧ (¬ (¬ s0 = 0) → Q (xI 0) M)) :
    Ru (d + 1) kMo_readsDigits 49 [xO 9 a0, xL a1, xU, xL a3, xU, xL a5, xU] [xI s0] M Q := sx_ok cMo_readsDigits 7 [2, 29, 49, 69] rfl h
theorem vMo_readsDigits_69 {d : Nat} {M : xM} {Q : xQ} {a0 a1 a3 a5 s0 : Int}
    (h : (¬ s0 = 32 → Q (xI 0) M) ∧ (¬ (¬ s0 = 32) → Q (xI 1) M)) :
    Ru (d + 1) kMo_readsDigits 69 [xO 9 a0, xL a1, xU, xL a3, xU, xL a5, xU] [xI s0] M Q := sx_ok cMo_readsDigits 6 [2, 29, 49, 69] rfl h
theorem vMo_areStrides_0 {d : Nat} {M : xM} {Q : xQ} {a0 : Int}
    (h : (0 ≤ (1 : Int) ∧ (1 : Int) < 259) ∧ ((¬ (M (a0 + 1) 1) = (M a0 32) → Ru d kMo_areStrides 21 [xO 9 a0, xI 0, xI 0] [] M Q) ∧ (¬ (¬ (M (a0 + 1) 1) = (M a0 32)) → Ru d kMo_areStrides 21 [xO 9 a0, xI 1, xI 0] [] M Q))) :
    Ru d kMo_areStrides 0 [xO 9 a0, xU, xU] [] M Q := sx_ok cMo_areStrides 13 [21] rfl h
theorem vMo_areStrides_21 {d : Nat} {M : xM} {Q : xQ} {a0 a1 a2 : Int}
    (h : ((M a0 32) ≤ a2 → rb a1 (Q (xI a1) M)) ∧ (¬ ((M a0 32) ≤ a2) → (a1 = 0 → Ru d kMo_areStrides 21 [xO 9 a0, xI 0, xI (z32 (a2 + 1))] [] M Q) ∧ (¬ (a1 = 0) → (0 ≤ (z32 (243 + a2)) ∧ (z32 (243 + a2)) < 259) ∧ ((0 ≤ a2 ∧ a2 < 24) ∧ ((¬ (M (a0 + 1) (z32 (243 + a2))) = (M (a0 + 21) a2) → Ru d kMo_areStrides 21 [xO 9 a0, xI 0, xI (z32 (a2 + 1))] [] M Q) ∧ (¬ (¬ (M (a0 + 1) (z32 (243 + a2))) = (M (a0 + 21) a2)) → Ru d kMo_areStrides 21 [xO 9 a0, xI 1, xI (z32 (a2 + 1))] [] M Q)))))) :
    Ru d kMo_areStrides 21 [xO 9 a0, xI a1, xI a2] [] M Q := sx_ok cMo_areStrides 23 [21] rfl h
theorem vMo_strides_0 {d : Nat} {M : xM} {Q : xQ} {a0 a1 : Int}
    (h : (a1 ≤ 0 → Q (xI (-1)) M) ∧ (¬ (a1 ≤ 0) → Ru d kMo_readsDigits 0 [xO 9 a0, xL a1, xU, xU, xU, xU, xU] [] M (fun r N => Ru (d + 1) kMo_strides 11 [xO 9 a0, xL a1, xU] [r] N Q))) :
    Ru (d + 1) kMo_strides 0 [xO 9 a0, xL a1, xU] [] M Q := sx_ok cMo_strides 7 [11, 20, 30, 34, 38] rfl h
theorem vMo_strides_11 {d : Nat} {M : xM} {Q : xQ} {a0 a1 s0 : Int}
    (h : (¬ s0 = 0 → Ru d kMo_areStrides 0 [xO 9 a0, xU, xU] [] M (fun r N => Ru (d + 1) kMo_strides 20 [xO 9 a0, xL a1, xU] [r] N Q)) ∧ (¬ (¬ s0 = 0) → Q (xI (-1)) M)) :
    Ru (d + 1) kMo_strides 11 [xO 9 a0, xL a1, xU] [xI s0] M Q := sx_ok cMo_strides 4 [11, 20, 30, 34, 38] rfl h
theorem vMo_strides_20 {d : Nat} {M : xM} {Q : xQ} {a0 a1 s0 : Int}
    (h : (s0 = 0 → Ru d kMo_keepsAct 0 [xO 9 a0, xU] [] M (fun r N => Ru (d + 1) kMo_strides 30 [xO 9 a0, xL a1, xU] [] N Q)) ∧ (¬ (s0 = 0) → Q (xI (-2)) M)) :
    Ru (d + 1) kMo_strides 20 [xO 9 a0, xL a1, xU] [xI s0] M Q := sx_ok cMo_strides 4 [11, 20, 30, 34, 38] rfl h
theorem vMo_strides_30 {d : Nat} {M : xM} {Q : xQ} {a0 a1 : Int}
    (h : Ru d kMo_takesStrides 0 [xO 9 a0, xU] [] M (fun r N => Ru (d + 1) kMo_strides 34 [xO 9 a0, xL a1, xU] [] N Q)) :
    Ru (d + 1) kMo_strides 30 [xO 9 a0, xL a1, xU] [] M Q := sx_ok cMo_strides 3 [11, 20, 30, 34, 38] rfl h
theorem vMo_strides_34 {d : Nat} {M : xM} {Q : xQ} {a0 a1 : Int}
    (h : Ru d kMo_isDone 0 [xO 9 a0] [] M (fun r N => Ru (d + 1) kMo_strides 38 [xO 9 a0, xL a1, xU] [] N Q)) :
    Ru (d + 1) kMo_strides 34 [xO 9 a0, xL a1, xU] [] M Q := sx_ok cMo_strides 3 [11, 20, 30, 34, 38] rfl h
theorem vMo_strides_38 {d : Nat} {M : xM} {Q : xQ} {a0 a1 : Int}
    (h : Q (xI (M a0 32)) M) :
    Ru (d + 1) kMo_strides 38 [xO 9 a0, xL a1, xU] [] M Q := sx_ok cMo_strides 4 [11, 20, 30, 34, 38] rfl h
theorem vMo_feed_0 {d : Nat} {M : xM} {Q : xQ} {a0 a1 a2 a3 a4 a5 : Int}
    (h : ((M a0 35) ≤ 380 → Ru d kMo_feed 15 [xO 9 a0, xI a1, xI a2, xI a3, xI a4, xI a5, xI 0, xU] [] M Q) ∧ (¬ ((M a0 35) ≤ 380) → Q (xI (-1)) M)) :
    Ru d kMo_feed 0 [xO 9 a0, xI a1, xI a2, xI a3, xI a4, xI a5, xU, xU] [] M Q := sx_ok cMo_feed 7 [15] rfl h
theorem vMo_feed_15 {d : Nat} {M : xM} {Q : xQ} {a0 a1 a2 a3 a4 a5 a6 : Int} {w7 : xV}
    (h : (20 ≤ a6 → Q (xI ((up M a0 35 (z32 ((M a0 35) + 20))) a0 35)) (up M a0 35 (z32 ((M a0 35) + 20)))) ∧ (¬ (20 ≤ a6) → (4 ≤ a6 → (8 ≤ a6 → (12 ≤ a6 → (16 ≤ a6 → ¬ (4 : Int) = 0 ∧ ((0 ≤ (z32 ((M a0 35) + a6)) ∧ (z32 ((M a0 35) + a6)) < 400) ∧ (Ru d kMo_feed 15 [xO 9 a0, xI a1, xI a2, xI a3, xI a4, xI a5, xI (z32 (a6 + 1)), xI a5] [] (up M (a0 + 22) (z32 ((M a0 35) + a6)) (i2b (i2b (ishr a5 (z32 (24 - (z32 (8 * (irem a6 4))))))))) Q))) ∧ (¬ (16 ≤ a6) → ¬ (4 : Int) = 0 ∧ ((0 ≤ (z32 ((M a0 35) + a6)) ∧ (z32 ((M a0 35) + a6)) < 400) ∧ (Ru d kMo_feed 15 [xO 9 a0, xI a1, xI a2, xI a3, xI a4, xI a5, xI (z32 (a6 + 1)), xI a4] [] (up M (a0 + 22) (z32 ((M a0 35) + a6)) (i2b (i2b (ishr a4 (z32 (24 - (z32 (8 * (irem a6 4))))))))) Q)))) ∧ (¬ (12 ≤ a6) → ¬ (4 : Int) = 0 ∧ ((0 ≤ (z32 ((M a0 35) + a6)) ∧ (z32 ((M a0 35) + a6)) < 400) ∧ (Ru d kMo_feed 15 [xO 9 a0, xI a1, xI a2, xI a3, xI a4, xI a5, xI (z32 (a6 + 1)), xI a3] [] (up M (a0 + 22) (z32 ((M a0 35) + a6)) (i2b (i2b (ishr a3 (z32 (24 - (z32 (8 * (irem a6 4))))))))) Q)))) ∧ (¬ (8 ≤ a6) → ¬ (4 : Int) = 0 ∧ ((0 ≤ (z32 ((M a0 35) + a6)) ∧ (z32 ((M a0 35) + a6)) < 400) ∧ (Ru d kMo_feed 15 [xO 9 a0, xI a1, xI a2, xI a3, xI a4, xI a5, xI (z32 (a6 + 1)), xI a2] [] (up M (a0 + 22) (z32 ((M a0 35) + a6)) (i2b (i2b (ishr a2 (z32 (24 - (z32 (8 * (irem a6 4))))))))) Q)))) ∧ (¬ (4 ≤ a6) → ¬ (4 : Int) = 0 ∧ ((0 ≤ (z32 ((M a0 35) + a6)) ∧ (z32 ((M a0 35) + a6)) < 400) ∧ (Ru d kMo_feed 15 [xO 9 a0, xI a1, xI a2, xI a3, xI a4, xI a5, xI (z32 (a6 + 1)), xI a1] [] (up M (a0 + 22) (z32 ((M a0 35) + a6)) (i2b (i2b (ishr a1 (z32 (24 - (z32 (8 * (irem a6 4))))))))) Q))))) :
    Ru d kMo_feed 15 [xO 9 a0, xI a1, xI a2, xI a3, xI a4, xI a5, xI a6, w7] [] M Q := sx_ok cMo_feed 38 [15] rfl h
theorem vMo_end_0 {d : Nat} {M : xM} {Q : xQ} {a0 a1 : Int}
    (h : Ru d kMo_isIn 0 [xL a1, xU, xL 0, xU, xL (M a0 35), xU] [] M (fun r N => Ru (d + 1) kMo_end 11 [xO 9 a0, xI a1] [r] N Q)) :
    Ru (d + 1) kMo_end 0 [xO 9 a0, xI a1] [] M Q := sx_ok cMo_end 8 [11] rfl h
theorem vMo_end_11 {d : Nat} {M : xM} {Q : xQ} {a0 a1 s0 : Int}
    (h : (¬ s0 = 0 → Q (xI a1) (up M a0 35 a1)) ∧ (¬ (¬ s0 = 0) → Q (xI (-1)) M)) :
    Ru (d + 1) kMo_end 11 [xO 9 a0, xI a1] [xI s0] M Q := sx_ok cMo_end 7 [11] rfl h
theorem vMo_byteAt_0 {d : Nat} {M : xM} {Q : xQ} {a0 a1 : Int}
    (h : ((M a0 35) ≤ a1 → Q (xI (-1)) M) ∧ (¬ ((M a0 35) ≤ a1) → (0 ≤ a1 ∧ a1 < 400) ∧ (Q (xI (iand (M (a0 + 22) a1) 255)) M))) :
    Ru d kMo_byteAt 0 [xO 9 a0, xI a1] [] M Q := sx_ok cMo_byteAt 13 [] rfl h
theorem vMo_next_0 {d : Nat} {M : xM} {Q : xQ} {a0 : Int}
    (h : Ru d kMo_byteAt 0 [xO 9 a0, xI (M a0 36)] [] M (fun r N => Ru (d + 1) kMo_next 8 [xO 9 a0] [r] N Q)) :
    Ru (d + 1) kMo_next 0 [xO 9 a0] [] M Q := sx_ok cMo_next 5 [0, 8, 34] rfl h
theorem vMo_next_8 {d : Nat} {M : xM} {Q : xQ} {a0 s0 : Int}
    (h : (¬ s0 = 32 → Ru d kMo_byteAt 0 [xO 9 a0, xI (M a0 36)] [] M (fun r N => Ru (d + 1) kMo_next 34 [xO 9 a0] [r] N Q)) ∧ (¬ (¬ s0 = 32) → Ru (d + 1) kMo_next 0 [xO 9 a0] [] (up M a0 36 (z32 ((M a0 36) + 1))) Q)) :
    Ru (d + 1) kMo_next 8 [xO 9 a0] [xI s0] M Q := sx_ok cMo_next 10 [0, 8, 34] rfl h
theorem vMo_next_34 {d : Nat} {M : xM} {Q : xQ} {a0 s0 : Int}
    (h : Q (xI s0) M) :
    Ru (d + 1) kMo_next 34 [xO 9 a0] [xI s0] M Q := sx_ok cMo_next 2 [0, 8, 34] rfl h
theorem vMo_isDigitNext_0 {d : Nat} {M : xM} {Q : xQ} {a0 : Int}
    (h : Ru d kMo_next 0 [xO 9 a0] [] M (fun r N => Ru (d + 1) kMo_isDigitNext 4 [xO 9 a0] [r] N Q)) :
    Ru (d + 1) kMo_isDigitNext 0 [xO 9 a0] [] M Q := sx_ok cMo_isDigitNext 3 [4, 14] rfl h
theorem vMo_isDigitNext_4 {d : Nat} {M : xM} {Q : xQ} {a0 s0 : Int}
    (h : Ru d kMo_isIn 0 [xL s0, xU, xL 48, xU, xL 57, xU] [] M (fun r N => Ru (d + 1) kMo_isDigitNext 14 [xO 9 a0] [r] N Q)) :
    Ru (d + 1) kMo_isDigitNext 4 [xO 9 a0] [xI s0] M Q := sx_ok cMo_isDigitNext 5 [4, 14] rfl h
theorem vMo_isDigitNext_14 {d : Nat} {M : xM} {Q : xQ} {a0 s0 : Int}
    (h : rb s0 (Q (xI s0) M)) :
    Ru (d + 1) kMo_isDigitNext 14 [xO 9 a0] [xI s0] M Q := sx_ok cMo_isDigitNext 2 [4, 14] rfl h
theorem vMo_fails_0 {d : Nat} {M : xM} {Q : xQ} {a0 a1 a2 : Int}
    (h : Q (xI 0) (up M a0 37 (z32 ((z32 (8 * a2)) + a1)))) :
    Ru d kMo_fails 0 [xO 9 a0, xI a1, xI a2] [] M Q := sx_ok cMo_fails 10 [] rfl h
theorem vMo_readsNumber_0 {d : Nat} {M : xM} {Q : xQ} {a0 a1 a2 : Int}
    (h : Ru d kMo_isDigitNext 0 [xO 9 a0] [] M (fun r N => Ru (d + 1) kMo_readsNumber 4 [xO 9 a0, xI a1, xI a2, xU, xU] [r] N Q)) :
    Ru (d + 1) kMo_readsNumber 0 [xO 9 a0, xI a1, xI a2, xU, xU] [] M Q := sx_ok cMo_readsNumber 3 [4, 26, 30, 38, 48, 77, 112, 124] rfl h
theorem vMo_readsNumber_4 {d : Nat} {M : xM} {Q : xQ} {a0 a1 a2 s0 : Int}
    (h : (¬ s0 = 0 → Ru (d + 1) kMo_readsNumber 30 [xO 9 a0, xI a1, xI a2, xI s0, xI 0] [] (up M a0 39 (M a0 36)) Q) ∧ (¬ (¬ s0 = 0) → Ru d kMo_fails 0 [xO 9 a0, xI 1, xI ((up M a0 39 (M a0 36)) a0 36)] [] (up M a0 39 (M a0 36)) (fun r N => Ru (d + 1) kMo_readsNumber 26 [xO 9 a0, xI a1, xI a2, xI s0, xU] [r] N Q))) :
    Ru (d + 1) kMo_readsNumber 4 [xO 9 a0, xI a1, xI a2, xU, xU] [xI s0] M Q := sx_ok cMo_readsNumber 13 [4, 26, 30, 38, 48, 77, 112, 124] rfl h
theorem vMo_readsNumber_26 {d : Nat} {M : xM} {Q : xQ} {a0 a1 a2 a3 s0 : Int}
    (h : rb s0 (Q (xI s0) M)) :
    Ru (d + 1) kMo_readsNumber 26 [xO 9 a0, xI a1, xI a2, xI a3, xU] [xI s0] M Q := sx_ok cMo_readsNumber 2 [4, 26, 30, 38, 48, 77, 112, 124] rfl h
theorem vMo_readsNumber_30 {d : Nat} {M : xM} {Q : xQ} {a0 a1 a2 a3 a4 : Int}
    (h : Ru d kMo_byteAt 0 [xO 9 a0, xI (M a0 36)] [] M (fun r N => Ru (d + 1) kMo_readsNumber 38 [xO 9 a0, xI a1, xI a2, xI a3, xI a4] [r] N Q)) :
    Ru (d + 1) kMo_readsNumber 30 [xO 9 a0, xI a1, xI a2, xI a3, xI a4] [] M Q := sx_ok cMo_readsNumber 5 [4, 26, 30, 38, 48, 77, 112, 124] rfl h
theorem vMo_readsNumber_38 {d : Nat} {M : xM} {Q : xQ} {a0 a1 a2 a3 a4 s0 : Int}
    (h : Ru d kMo_isIn 0 [xL s0, xU, xL 48, xU, xL 57, xU] [] M (fun r N => Ru (d + 1) kMo_readsNumber 48 [xO 9 a0, xI a1, xI a2, xI a3, xI a4] [r] N Q)) :
    Ru (d + 1) kMo_readsNumber 38 [xO 9 a0, xI a1, xI a2, xI a3, xI a4] [xI s0] M Q := sx_ok cMo_readsNumber 5 [4, 26, 30, 38, 48, 77, 112, 124] rfl h
theorem vMo_readsNumber_48 {d : Nat} {M : xM} {Q : xQ} {a0 a1 a2 a3 a4 s0 : Int}
    (h : (s0 = 0 → Ru d kMo_isIn 0 [xL a4, xU, xL a1, xU, xL a2, xU] [] (up M a0 38 a4) (fun r N => Ru (d + 1) kMo_readsNumber 112 [xO 9 a0, xI a1, xI a2, xI a3, xI a4] [r] N Q)) ∧ (¬ (s0 = 0) → (a4 ≤ 9999 → Ru d kMo_byteAt 0 [xO 9 a0, xI (M a0 36)] [] M (fun r N => Ru (d + 1) kMo_readsNumber 77 [xO 9 a0, xI a1, xI a2, xI a3, xI a4] [r, xI (z32 (10 * a4))] N Q)) ∧ (¬ (a4 ≤ 9999) → Ru (d + 1) kMo_readsNumber 30 [xO 9 a0, xI a1, xI a2, xI a3, xI a4] [] (up M a0 36 (z32 ((M a0 36) + 1))) Q))) :
    Ru (d + 1) kMo_readsNumber 48 [xO 9 a0, xI a1, xI a2, xI a3, xI a4] [xI s0] M Q := sx_ok cMo_readsNumber 15 [4, 26, 30, 38, 48, 77, 112, 124] rfl h
theorem vMo_readsNumber_77 {d : Nat} {M : xM} {Q : xQ} {a0 a1 a2 a3 a4 s0 s1 : Int}
    (h : Ru (d + 1) kMo_readsNumber 30 [xO 9 a0, xI a1, xI a2, xI a3, xI (z32 ((z32 (s1 + s0)) - 48))] [] (up M a0 36 (z32 ((M a0 36) + 1))) Q) :
    Ru (d + 1) kMo_readsNumber 77 [xO 9 a0, xI a1, xI a2, xI a3, xI a4] [xI s0, xI s1] M Q := sx_ok cMo_readsNumber 12 [4, 26, 30, 38, 48, 77, 112, 124] rfl h
theorem vMo_readsNumber_112 {d : Nat} {M : xM} {Q : xQ} {a0 a1 a2 a3 a4 s0 : Int}
    (h : (¬ s0 = 0 → Q (xI 1) M) ∧ (¬ (¬ s0 = 0) → Ru d kMo_fails 0 [xO 9 a0, xI 2, xI (M a0 39)] [] M (fun r N => Ru (d + 1) kMo_readsNumber 124 [xO 9 a0, xI a1, xI a2, xI a3, xI a4] [r] N Q))) :
    Ru (d + 1) kMo_readsNumber 112 [xO 9 a0, xI a1, xI a2, xI a3, xI a4] [xI s0] M Q := sx_ok cMo_readsNumber 7 [4, 26, 30, 38, 48, 77, 112, 124] rfl h
theorem vMo_readsNumber_124 {d : Nat} {M : xM} {Q : xQ} {a0 a1 a2 a3 a4 s0 : Int}
    (h : (s0 = 0 → Q (xI 0) M) ∧ (¬ (s0 = 0) → Q (xI 1) M)) :
    Ru (d + 1) kMo_readsNumber 124 [xO 9 a0, xI a1, xI a2, xI a3, xI a4] [xI s0] M Q := sx_ok cMo_readsNumber 5 [4, 26, 30, 38, 48, 77, 112, 124] rfl h
theorem vMo_readsSign_0 {d : Nat} {M : xM} {Q : xQ} {a0 a1 : Int}
    (h : Ru d kMo_next 0 [xO 9 a0] [] M (fun r N => Ru (d + 1) kMo_readsSign 4 [xO 9 a0, xI a1] [r] N Q)) :
    Ru (d + 1) kMo_readsSign 0 [xO 9 a0, xI a1] [] M Q := sx_ok cMo_readsSign 3 [4, 17] rfl h
theorem vMo_readsSign_4 {d : Nat} {M : xM} {Q : xQ} {a0 a1 s0 : Int}
    (h : (s0 = a1 → Q (xI 1) (up M a0 36 (z32 ((M a0 36) + 1)))) ∧ (¬ (s0 = a1) → Ru d kMo_fails 0 [xO 9 a0, xI 1, xI (M a0 36)] [] M (fun r N => Ru (d + 1) kMo_readsSign 17 [xO 9 a0, xI a1] [r] N Q))) :
    Ru (d + 1) kMo_readsSign 4 [xO 9 a0, xI a1] [xI s0] M Q := sx_ok cMo_readsSign 11 [4, 17] rfl h
theorem vMo_readsSign_17 {d : Nat} {M : xM} {Q : xQ} {a0 a1 s0 : Int}
    (h : rb s0 (Q (xI s0) M)) :
    Ru (d + 1) kMo_readsSign 17 [xO 9 a0, xI a1] [xI s0] M Q := sx_ok cMo_readsSign 2 [4, 17] rfl h
theorem vMo_isStridesWord_0 {d : Nat} {M : xM} {Q : xQ} {a0 : Int}
    (h : Ru d kMo_next 0 [xO 9 a0] [] M (fun r N => Ru (d + 1) kMo_isStridesWord 8 [xO 9 a0, xS 1, xU, xU] [r] N Q)) :
    Ru (d + 1) kMo_isStridesWord 0 [xO 9 a0, xU, xU, xU] [] M Q := sx_ok cMo_isStridesWord 5 [8, 11, 29, 43, 61, 71] rfl h
theorem vMo_isStridesWord_8 {d : Nat} {M : xM} {Q : xQ} {a0 a1 s0 : Int}
    (h : Ru (d + 1) kMo_isStridesWord 11 [xO 9 a0, xS a1, xI s0, xI 0] [] M Q) :
    Ru (d + 1) kMo_isStridesWord 8 [xO 9 a0, xS a1, xU, xU] [xI s0] M Q := sx_ok cMo_isStridesWord 4 [8, 11, 29, 43, 61, 71] rfl h
theorem vMo_isStridesWord_11 {d : Nat} {M : xM} {Q : xQ} {a0 a1 a2 a3 : Int}
    (h : (7 ≤ a3 → Ru (d + 1) kMo_isStridesWord 43 [xO 9 a0, xS a1, xI a2, xI a3] [] M Q) ∧ (¬ (7 ≤ a3) → Ru d kMo_byteAt 0 [xO 9 a0, xI (z32 ((M a0 36) + a3))] [] M (fun r N => Ru (d + 1) kMo_isStridesWord 29 [xO 9 a0, xS a1, xI a2, xI a3] [r] N Q))) :
    Ru (d + 1) kMo_isStridesWord 11 [xO 9 a0, xS a1, xI a2, xI a3] [] M Q := sx_ok cMo_isStridesWord 11 [8, 11, 29, 43, 61, 71] rfl h
theorem vMo_isStridesWord_29 {d : Nat} {M : xM} {Q : xQ} {a0 a1 a2 a3 s0 : Int}
    (h : (0 ≤ a3 ∧ a3 < 7) ∧ ((¬ s0 = (strv a3) → Ru (d + 1) kMo_isStridesWord 43 [xO 9 a0, xS a1, xI a2, xI a3] [] M Q) ∧ (¬ (¬ s0 = (strv a3)) → Ru (d + 1) kMo_isStridesWord 11 [xO 9 a0, xS a1, xI a2, xI (z32 (a3 + 1))] [] M Q))) :
    Ru (d + 1) kMo_isStridesWord 29 [xO 9 a0, xS a1, xI a2, xI a3] [xI s0] M Q := sx_ok cMo_isStridesWord 7 [8, 11, 29, 43, 61, 71] rfl h
theorem vMo_isStridesWord_43 {d : Nat} {M : xM} {Q : xQ} {a0 a1 a2 a3 : Int}
    (h : (¬ a3 = 7 → Q (xI 0) M) ∧ (¬ (¬ a3 = 7) → Ru d kMo_byteAt 0 [xO 9 a0, xI (z32 ((M a0 36) + a3))] [] M (fun r N => Ru (d + 1) kMo_isStridesWord 61 [xO 9 a0, xS a1, xI a2, xI a3] [r] N Q))) :
    Ru (d + 1) kMo_isStridesWord 43 [xO 9 a0, xS a1, xI a2, xI a3] [] M Q := sx_ok cMo_isStridesWord 11 [8, 11, 29, 43, 61, 71] rfl h
theorem vMo_isStridesWord_61 {d : Nat} {M : xM} {Q : xQ} {a0 a1 a2 a3 s0 : Int}
    (h : Ru d kMo_isIn 0 [xL s0, xU, xL 97, xU, xL 122, xU] [] M (fun r N => Ru (d + 1) kMo_isStridesWord 71 [xO 9 a0, xS a1, xI a2, xI a3] [r] N Q)) :
    Ru (d + 1) kMo_isStridesWord 61 [xO 9 a0, xS a1, xI a2, xI a3] [xI s0] M Q := sx_ok cMo_isStridesWord 5 [8, 11, 29, 43, 61, 71] rfl h
theorem vMo_isStridesWord_71 {d : Nat} {M : xM} {Q : xQ} {a0 a1 a2 a3 s0 : Int}
    (h : (¬ s0 = 0 → Q (xI 0) M) ∧ (¬ (¬ s0 = 0) → Q (xI 1) M)) :
    Ru (d + 1) kMo_isStridesWord 71 [xO 9 a0, xS a1, xI a2, xI a3] [xI s0] M Q := sx_ok cMo_isStridesWord 5 [8, 11, 29, 43, 61, 71] rfl h
theorem vMo_readsStrides_0 {d : Nat} {M : xM} {Q : xQ} {a0 : Int}
    (h : Ru (d + 1) kMo_readsStrides 18 [xO 9 a0, xI 1] [] (up (up M a0 36 (z32 ((M a0 36) + 7))) a0 32 0) Q) :
    Ru (d + 1) kMo_readsStrides 0 [xO 9 a0, xU] [] M Q := sx_ok cMo_readsStrides 12 [18, 29, 42, 54, 59, 68] rfl h
theorem vMo_readsStrides_18 {d : Nat} {M : xM} {Q : xQ} {a0 a1 : Int}
    (h : (a1 = 0 → Q (xI 1) M) ∧ (¬ (a1 = 0) → Ru d kMo_readsNumber 0 [xO 9 a0, xI 2, xI 6, xU, xU] [] M (fun r N => Ru (d + 1) kMo_readsStrides 29 [xO 9 a0, xI a1] [r] N Q))) :
    Ru (d + 1) kMo_readsStrides 18 [xO 9 a0, xI a1] [] M Q := sx_ok cMo_readsStrides 7 [18, 29, 42, 54, 59, 68] rfl h
theorem vMo_readsStrides_29 {d : Nat} {M : xM} {Q : xQ} {a0 a1 s0 : Int}
    (h : (¬ s0 = 0 → Ru d kMo_addsStride 0 [xO 9 a0, xI (M a0 38), xU, xU] [] M (fun r N => Ru (d + 1) kMo_readsStrides 42 [xO 9 a0, xI a1] [r] N Q)) ∧ (¬ (¬ s0 = 0) → Q (xI 0) M)) :
    Ru (d + 1) kMo_readsStrides 29 [xO 9 a0, xI a1] [xI s0] M Q := sx_ok cMo_readsStrides 6 [18, 29, 42, 54, 59, 68] rfl h
theorem vMo_readsStrides_42 {d : Nat} {M : xM} {Q : xQ} {a0 a1 s0 : Int}
    (h : (¬ s0 = 0 → Ru d kMo_strideSum 0 [xO 9 a0, xU, xU] [] M (fun r N => Ru (d + 1) kMo_readsStrides 59 [xO 9 a0, xI a1] [r] N Q)) ∧ (¬ (¬ s0 = 0) → Ru d kMo_fails 0 [xO 9 a0, xI 2, xI (M a0 39)] [] M (fun r N => Ru (d + 1) kMo_readsStrides 54 [xO 9 a0, xI a1] [r] N Q))) :
    Ru (d + 1) kMo_readsStrides 42 [xO 9 a0, xI a1] [xI s0] M Q := sx_ok cMo_readsStrides 7 [18, 29, 42, 54, 59, 68] rfl h
theorem vMo_readsStrides_54 {d : Nat} {M : xM} {Q : xQ} {a0 a1 s0 : Int}
    (h : rb s0 (Q (xI s0) M)) :
    Ru (d + 1) kMo_readsStrides 54 [xO 9 a0, xI a1] [xI s0] M Q := sx_ok cMo_readsStrides 2 [18, 29, 42, 54, 59, 68] rfl h
theorem vMo_readsStrides_59 {d : Nat} {M : xM} {Q : xQ} {a0 a1 s0 : Int}
    (h : (s0 < 32 → Ru (d + 1) kMo_readsStrides 18 [xO 9 a0, xI 1] [] M Q) ∧ (¬ (s0 < 32) → Ru d kMo_isDigitNext 0 [xO 9 a0] [] M (fun r N => Ru (d + 1) kMo_readsStrides 68 [xO 9 a0, xI a1] [r] N Q))) :
    Ru (d + 1) kMo_readsStrides 59 [xO 9 a0, xI a1] [xI s0] M Q := sx_ok cMo_readsStrides 7 [18, 29, 42, 54, 59, 68] rfl h
theorem vMo_readsStrides_68 {d : Nat} {M : xM} {Q : xQ} {a0 a1 s0 : Int}
    (h : (s0 = 0 → Ru (d + 1) kMo_readsStrides 18 [xO 9 a0, xI 0] [] M Q) ∧ (¬ (s0 = 0) → Ru (d + 1) kMo_readsStrides 18 [xO 9 a0, xI 1] [] M Q)) :
    Ru (d + 1) kMo_readsStrides 68 [xO 9 a0, xI a1] [xI s0] M Q := sx_ok cMo_readsStrides 6 [18, 29, 42, 54, 59, 68] rfl h
theorem vMo_readsRule_0 {d : Nat} {M : xM} {Q : xQ} {a0 : Int}
    (h : Ru (d + 1) kMo_readsRule 4 [xO 9 a0, xL 0, xU, xI 0, xU] [] M Q) :
    Ru (d + 1) kMo_readsRule 0 [xO 9 a0, xU, xU, xU, xU] [] M Q := sx_ok cMo_readsRule 5 [4, 19, 22, 30, 59, 69, 84, 99, 106, 116, 134] rfl h
theorem vMo_readsRule_4 {d : Nat} {M : xM} {Q : xQ} {a0 a1 a3 : Int}
    (h : (4 ≤ a3 → Ru d kMo_readsSign 0 [xO 9 a0, xI 47] [] M (fun r N => Ru (d + 1) kMo_readsRule 59 [xO 9 a0, xL a1, xU, xI a3, xU] [r] N Q)) ∧ (¬ (4 ≤ a3) → (a3 ≤ 0 → Ru (d + 1) kMo_readsRule 22 [xO 9 a0, xL a1, xU, xI a3, xU] [] M Q) ∧ (¬ (a3 ≤ 0) → Ru d kMo_readsSign 0 [xO 9 a0, xI 46] [] M (fun r N => Ru (d + 1) kMo_readsRule 19 [xO 9 a0, xL a1, xU, xI a3, xU] [r] N Q)))) :
    Ru (d + 1) kMo_readsRule 4 [xO 9 a0, xL a1, xU, xI a3, xU] [] M Q := sx_ok cMo_readsRule 9 [4, 19, 22, 30, 59, 69, 84, 99, 106, 116, 134] rfl h
theorem vMo_readsRule_19 {d : Nat} {M : xM} {Q : xQ} {a0 a1 a3 s0 : Int}
    (h : (s0 = 0 → Q (xI 0) M) ∧ (¬ (s0 = 0) → Ru (d + 1) kMo_readsRule 22 [xO 9 a0, xL a1, xU, xI a3, xU] [] M Q)) :
    Ru (d + 1) kMo_readsRule 19 [xO 9 a0, xL a1, xU, xI a3, xU] [xI s0] M Q := sx_ok cMo_readsRule 4 [4, 19, 22, 30, 59, 69, 84, 99, 106, 116, 134] rfl h
theorem vMo_readsRule_22 {d : Nat} {M : xM} {Q : xQ} {a0 a1 a3 : Int}
    (h : Ru d kMo_readsNumber 0 [xO 9 a0, xI 0, xI 255, xU, xU] [] M (fun r N => Ru (d + 1) kMo_readsRule 30 [xO 9 a0, xL a1, xU, xI a3, xU] [r] N Q)) :
    Ru (d + 1) kMo_readsRule 22 [xO 9 a0, xL a1, xU, xI a3, xU] [] M Q := sx_ok cMo_readsRule 5 [4, 19, 22, 30, 59, 69, 84, 99, 106, 116, 134] rfl h
theorem vMo_readsRule_30 {d : Nat} {M : xM} {Q : xQ} {a0 a1 a3 s0 : Int}
    (h : (¬ s0 = 0 → Ru (d + 1) kMo_readsRule 4 [xO 9 a0, xL (z64 ((z64 (256 * a1)) + (M a0 38))), xU, xI (z32 (a3 + 1)), xU] [] M Q) ∧ (¬ (¬ s0 = 0) → Q (xI 0) M)) :
    Ru (d + 1) kMo_readsRule 30 [xO 9 a0, xL a1, xU, xI a3, xU] [xI s0] M Q := sx_ok cMo_readsRule 12 [4, 19, 22, 30, 59, 69, 84, 99, 106, 116, 134] rfl h
theorem vMo_readsRule_59 {d : Nat} {M : xM} {Q : xQ} {a0 a1 a3 s0 : Int}
    (h : (s0 = 0 → Q (xI 0) M) ∧ (¬ (s0 = 0) → Ru d kMo_readsNumber 0 [xO 9 a0, xI 0, xI 32, xU, xU] [] M (fun r N => Ru (d + 1) kMo_readsRule 69 [xO 9 a0, xL a1, xU, xI a3, xU] [r] N Q))) :
    Ru (d + 1) kMo_readsRule 59 [xO 9 a0, xL a1, xU, xI a3, xU] [xI s0] M Q := sx_ok cMo_readsRule 6 [4, 19, 22, 30, 59, 69, 84, 99, 106, 116, 134] rfl h
theorem vMo_readsRule_69 {d : Nat} {M : xM} {Q : xQ} {a0 a1 a3 s0 : Int}
    (h : (¬ s0 = 0 → Ru d kMo_sizeOf 0 [xI (M a0 38)] [] M (fun r N => Ru (d + 1) kMo_readsRule 84 [xO 9 a0, xL a1, xU, xI (M a0 38), xU] [r, xL a1] N Q)) ∧ (¬ (¬ s0 = 0) → Q (xI 0) M)) :
    Ru (d + 1) kMo_readsRule 69 [xO 9 a0, xL a1, xU, xI a3, xU] [xI s0] M Q := sx_ok cMo_readsRule 8 [4, 19, 22, 30, 59, 69, 84, 99, 106, 116, 134] rfl h
theorem vMo_readsRule_84 {d : Nat} {M : xM} {Q : xQ} {a0 a1 a3 s0 s1 : Int}
    (h : ¬ s0 = 0 ∧ (((lrem s1 s0) = 0 → Ru d kMo_readsSign 0 [xO 9 a0, xI 61] [] M (fun r N => Ru (d + 1) kMo_readsRule 106 [xO 9 a0, xL a1, xU, xI a3, xU] [r] N Q)) ∧ (¬ ((lrem s1 s0) = 0) → Ru d kMo_fails 0 [xO 9 a0, xI 3, xI (M a0 39)] [] M (fun r N => Ru (d + 1) kMo_readsRule 99 [xO 9 a0, xL a1, xU, xI a3, xU] [r] N Q)))) :
    Ru (d + 1) kMo_readsRule 84 [xO 9 a0, xL a1, xU, xI a3, xU] [xL s0, xL s1] M Q := sx_ok cMo_readsRule 9 [4, 19, 22, 30, 59, 69, 84, 99, 106, 116, 134] rfl h
theorem vMo_readsRule_99 {d : Nat} {M : xM} {Q : xQ} {a0 a1 a3 s0 : Int}
    (h : rb s0 (Q (xI s0) M)) :
    Ru (d + 1) kMo_readsRule 99 [xO 9 a0, xL a1, xU, xI a3, xU] [xI s0] M Q := sx_ok cMo_readsRule 2 [4, 19, 22, 30, 59, 69, 84, 99, 106, 116, 134] rfl h
theorem vMo_readsRule_106 {d : Nat} {M : xM} {Q : xQ} {a0 a1 a3 s0 : Int}
    (h : (s0 = 0 → Q (xI 0) M) ∧ (¬ (s0 = 0) → Ru d kMo_readsNumber 0 [xO 9 a0, xI 0, xI 99, xU, xU] [] M (fun r N => Ru (d + 1) kMo_readsRule 116 [xO 9 a0, xL a1, xU, xI a3, xU] [r] N Q))) :
    Ru (d + 1) kMo_readsRule 106 [xO 9 a0, xL a1, xU, xI a3, xU] [xI s0] M Q := sx_ok cMo_readsRule 6 [4, 19, 22, 30, 59, 69, 84, 99, 106, 116, 134] rfl h
theorem vMo_readsRule_116 {d : Nat} {M : xM} {Q : xQ} {a0 a1 a3 s0 : Int}
    (h : (¬ s0 = 0 → Ru d kMo_readsNumber 0 [xO 9 a0, xI 0, xI 9, xU, xU] [] M (fun r N => Ru (d + 1) kMo_readsRule 134 [xO 9 a0, xL a1, xU, xI a3, xI (M a0 38)] [r] N Q)) ∧ (¬ (¬ s0 = 0) → Q (xI 0) M)) :
    Ru (d + 1) kMo_readsRule 116 [xO 9 a0, xL a1, xU, xI a3, xU] [xI s0] M Q := sx_ok cMo_readsRule 9 [4, 19, 22, 30, 59, 69, 84, 99, 106, 116, 134] rfl h
theorem vMo_readsRule_134 {d : Nat} {M : xM} {Q : xQ} {a0 a1 a3 a4 s0 : Int}
    (h : (¬ s0 = 0 → (0 ≤ (M a0 40) ∧ (M a0 40) < 64) ∧ ((0 ≤ ((up M (a0 + 23) (M a0 40) a1) a0 40) ∧ ((up M (a0 + 23) (M a0 40) a1) a0 40) < 64) ∧ ((0 ≤ ((up (up M (a0 + 23) (M a0 40) a1) (a0 + 24) ((up M (a0 + 23) (M a0 40) a1) a0 40) a3) a0 40) ∧ ((up (up M (a0 + 23) (M a0 40) a1) (a0 + 24) ((up M (a0 + 23) (M a0 40) a1) a0 40) a3) a0 40) < 64) ∧ (Q (xI 1) (up (up (up (up M (a0 + 23) (M a0 40) a1) (a0 + 24) ((up M (a0 + 23) (M a0 40) a1) a0 40) a3) (a0 + 25) ((up (up M (a0 + 23) (M a0 40) a1) (a0 + 24) ((up M (a0 + 23) (M a0 40) a1) a0 40) a3) a0 40) (z32 ((z32 (10 * a4)) + ((up (up M (a0 + 23) (M a0 40) a1) (a0 + 24) ((up M (a0 + 23) (M a0 40) a1) a0 40) a3) a0 38)))) a0 40 (z32 (((up (up (up M (a0 + 23) (M a0 40) a1) (a0 + 24) ((up M (a0 + 23) (M a0 40) a1) a0 40) a3) (a0 + 25) ((up (up M (a0 + 23) (M a0 40) a1) (a0 + 24) ((up M (a0 + 23) (M a0 40) a1) a0 40) a3) a0 40) (z32 ((z32 (10 * a4)) + ((up (up M (a0 + 23) (M a0 40) a1) (a0 + 24) ((up M (a0 + 23) (M a0 40) a1) a0 40) a3) a0 38)))) a0 40) + 1))))))) ∧ (¬ (¬ s0 = 0) → Q (xI 0) M)) :
    Ru (d + 1) kMo_readsRule 134 [xO 9 a0, xL a1, xU, xI a3, xI a4] [xI s0] M Q := sx_ok cMo_readsRule 33 [4, 19, 22, 30, 59, 69, 84, 99, 106, 116, 134] rfl h
theorem vMo_readsText_0 {d : Nat} {M : xM} {Q : xQ} {a0 : Int}
    (h : Ru (d + 1) kMo_readsText 17 [xO 9 a0, xI 1, xU] [] (up (up (up M a0 36 0) a0 40 0) a0 32 0) Q) :
    Ru (d + 1) kMo_readsText 0 [xO 9 a0, xU, xU] [] M Q := sx_ok cMo_readsText 12 [17, 25, 32, 39, 50, 82, 95] rfl h
theorem vMo_readsText_17 {d : Nat} {M : xM} {Q : xQ} {a0 a1 : Int} {w2 : xV}
    (h : (a1 = 0 → Ru d kMo_next 0 [xO 9 a0] [] M (fun r N => Ru (d + 1) kMo_readsText 82 [xO 9 a0, xI a1, w2] [r] N Q)) ∧ (¬ (a1 = 0) → Ru d kMo_isStridesWord 0 [xO 9 a0, xU, xU, xU] [] M (fun r N => Ru (d + 1) kMo_readsText 25 [xO 9 a0, xI a1, w2] [r] N Q))) :
    Ru (d + 1) kMo_readsText 17 [xO 9 a0, xI a1, w2] [] M Q := sx_ok cMo_readsText 5 [17, 25, 32, 39, 50, 82, 95] rfl h
theorem vMo_readsText_25 {d : Nat} {M : xM} {Q : xQ} {a0 a1 s0 : Int} {w2 : xV}
    (h : (s0 = 0 → Ru d kMo_readsRule 0 [xO 9 a0, xU, xU, xU, xU] [] M (fun r N => Ru (d + 1) kMo_readsText 39 [xO 9 a0, xI a1, w2] [r] N Q)) ∧ (¬ (s0 = 0) → Ru d kMo_readsStrides 0 [xO 9 a0, xU] [] M (fun r N => Ru (d + 1) kMo_readsText 32 [xO 9 a0, xI a1, w2] [r] N Q))) :
    Ru (d + 1) kMo_readsText 25 [xO 9 a0, xI a1, w2] [xI s0] M Q := sx_ok cMo_readsText 4 [17, 25, 32, 39, 50, 82, 95] rfl h
theorem vMo_readsText_32 {d : Nat} {M : xM} {Q : xQ} {a0 a1 s0 : Int} {w2 : xV}
    (h : Ru (d + 1) kMo_readsText 39 [xO 9 a0, xI a1, w2] [xI s0] M Q) :
    Ru (d + 1) kMo_readsText 32 [xO 9 a0, xI a1, w2] [xI s0] M Q := sx_ok cMo_readsText 2 [17, 25, 32, 39, 50, 82, 95] rfl h
theorem vMo_readsText_39 {d : Nat} {M : xM} {Q : xQ} {a0 a1 s0 : Int} {w2 : xV}
    (h : (¬ s0 = 0 → Ru d kMo_next 0 [xO 9 a0] [] M (fun r N => Ru (d + 1) kMo_readsText 50 [xO 9 a0, xI a1, xI s0] [r] N Q)) ∧ (¬ (¬ s0 = 0) → Q (xI 0) M)) :
    Ru (d + 1) kMo_readsText 39 [xO 9 a0, xI a1, w2] [xI s0] M Q := sx_ok cMo_readsText 6 [17, 25, 32, 39, 50, 82, 95] rfl h
theorem vMo_readsText_50 {d : Nat} {M : xM} {Q : xQ} {a0 a1 a2 s0 : Int}
    (h : (¬ s0 = 59 → ((0 : Int) = 0 → Ru (d + 1) kMo_readsText 17 [xO 9 a0, xI 0, xI a2] [] M Q) ∧ (¬ ((0 : Int) = 0) → Ru (d + 1) kMo_readsText 17 [xO 9 a0, xI 0, xI a2] [] (up M a0 36 (z32 ((M a0 36) + 1))) Q)) ∧ (¬ (¬ s0 = 59) → ((1 : Int) = 0 → Ru (d + 1) kMo_readsText 17 [xO 9 a0, xI 1, xI a2] [] M Q) ∧ (¬ ((1 : Int) = 0) → Ru (d + 1) kMo_readsText 17 [xO 9 a0, xI 1, xI a2] [] (up M a0 36 (z32 ((M a0 36) + 1))) Q))) :
    Ru (d + 1) kMo_readsText 50 [xO 9 a0, xI a1, xI a2] [xI s0] M Q := sx_ok cMo_readsText 15 [17, 25, 32, 39, 50, 82, 95] rfl h
theorem vMo_readsText_82 {d : Nat} {M : xM} {Q : xQ} {a0 a1 s0 : Int} {w2 : xV}
    (h : (s0 = (-1) → Q (xI 1) M) ∧ (¬ (s0 = (-1)) → Ru d kMo_fails 0 [xO 9 a0, xI 1, xI (M a0 36)] [] M (fun r N => Ru (d + 1) kMo_readsText 95 [xO 9 a0, xI a1, w2] [r] N Q))) :
    Ru (d + 1) kMo_readsText 82 [xO 9 a0, xI a1, w2] [xI s0] M Q := sx_ok cMo_readsText 8 [17, 25, 32, 39, 50, 82, 95] rfl h
theorem vMo_readsText_95 {d : Nat} {M : xM} {Q : xQ} {a0 a1 s0 : Int} {w2 : xV}
    (h : (s0 = 0 → Q (xI 0) M) ∧ (¬ (s0 = 0) → Q (xI 1) M)) :
    Ru (d + 1) kMo_readsText 95 [xO 9 a0, xI a1, w2] [xI s0] M Q := sx_ok cMo_readsText 5 [17, 25, 32, 39, 50, 82, 95] rfl h
theorem vMo_tell_0 {d : Nat} {M : xM} {Q : xQ} {a0 : Int}
    (h : Ru d kMo_readsText 0 [xO 9 a0, xU, xU] [] M (fun r N => Ru (d + 1) kMo_tell 4 [xO 9 a0, xU, xU, xU] [r] N Q)) :
    Ru (d + 1) kMo_tell 0 [xO 9 a0, xU, xU, xU] [] M Q := sx_ok cMo_tell 3 [4, 26, 37, 39, 69, 85] rfl h
theorem vMo_tell_4 {d : Nat} {M : xM} {Q : xQ} {a0 s0 : Int}
    (h : (¬ s0 = 0 → Ru d kMo_startsAnew 0 [xO 9 a0, xU] [] (up M a0 35 0) (fun r N => Ru (d + 1) kMo_tell 26 [xO 9 a0, xI s0, xU, xU] [] N Q)) ∧ (¬ (¬ s0 = 0) → Q (xI (z32 ((-2) - ((up M a0 35 0) a0 37)))) (up M a0 35 0))) :
    Ru (d + 1) kMo_tell 4 [xO 9 a0, xU, xU, xU] [xI s0] M Q := sx_ok cMo_tell 12 [4, 26, 37, 39, 69, 85] rfl h
theorem vMo_tell_26 {d : Nat} {M : xM} {Q : xQ} {a0 a1 : Int}
    (h : ((M a0 32) ≤ 0 → Ru (d + 1) kMo_tell 37 [xO 9 a0, xI a1, xU, xU] [] M Q) ∧ (¬ ((M a0 32) ≤ 0) → Ru d kMo_takesStrides 0 [xO 9 a0, xU] [] M (fun r N => Ru (d + 1) kMo_tell 37 [xO 9 a0, xI a1, xU, xU] [] N Q))) :
    Ru (d + 1) kMo_tell 26 [xO 9 a0, xI a1, xU, xU] [] M Q := sx_ok cMo_tell 6 [4, 26, 37, 39, 69, 85] rfl h
theorem vMo_tell_37 {d : Nat} {M : xM} {Q : xQ} {a0 a1 : Int}
    (h : Ru (d + 1) kMo_tell 39 [xO 9 a0, xI a1, xI 0, xU] [] M Q) :
    Ru (d + 1) kMo_tell 37 [xO 9 a0, xI a1, xU, xU] [] M Q := sx_ok cMo_tell 3 [4, 26, 37, 39, 69, 85] rfl h
theorem vMo_tell_39 {d : Nat} {M : xM} {Q : xQ} {a0 a1 a2 : Int} {w3 : xV}
    (h : ((M a0 40) ≤ a2 → Ru d kMo_isLaidAnew 0 [xO 9 a0] [] (up M a0 2 0) (fun r N => Ru (d + 1) kMo_tell 85 [xO 9 a0, xI a1, xI a2, w3] [] N Q)) ∧ (¬ ((M a0 40) ≤ a2) → (0 ≤ a2 ∧ a2 < 64) ∧ ((0 ≤ a2 ∧ a2 < 64) ∧ ((0 ≤ a2 ∧ a2 < 64) ∧ (Ru d kMo_puts 0 [xO 9 a0, xL (M (a0 + 23) a2), xU, xI (M (a0 + 24) a2), xI (M (a0 + 25) a2), xU, xU] [] M (fun r N => Ru (d + 1) kMo_tell 69 [xO 9 a0, xI a1, xI a2, w3] [r] N Q)))))) :
    Ru (d + 1) kMo_tell 39 [xO 9 a0, xI a1, xI a2, w3] [] M Q := sx_ok cMo_tell 19 [4, 26, 37, 39, 69, 85] rfl h
theorem vMo_tell_69 {d : Nat} {M : xM} {Q : xQ} {a0 a1 a2 s0 : Int} {w3 : xV}
    (h : Ru (d + 1) kMo_tell 39 [xO 9 a0, xI a1, xI (z32 (a2 + 1)), xI s0] [] M Q) :
    Ru (d + 1) kMo_tell 69 [xO 9 a0, xI a1, xI a2, w3] [xI s0] M Q := sx_ok cMo_tell 4 [4, 26, 37, 39, 69, 85] rfl h
theorem vMo_tell_85 {d : Nat} {M : xM} {Q : xQ} {a0 a1 a2 : Int} {w3 : xV}
    (h : (0 ≤ (0 : Int) ∧ (0 : Int) < 259) ∧ (Q (xI (M (a0 + 1) 0)) M)) :
    Ru (d + 1) kMo_tell 85 [xO 9 a0, xI a1, xI a2, w3] [] M Q := sx_ok cMo_tell 6 [4, 26, 37, 39, 69, 85] rfl h
theorem vMo_hopAt_0 {d : Nat} {M : xM} {Q : xQ} {a0 a1 : Int}
    (h : Ru d kMo_codeAt 0 [xO 9 a0, xI 0, xL a1, xU] [] M (fun r N => Ru (d + 1) kMo_hopAt 6 [xO 9 a0, xL a1, xU, xU] [r] N Q)) :
    Ru (d + 1) kMo_hopAt 0 [xO 9 a0, xL a1, xU, xU] [] M Q := sx_ok cMo_hopAt 5 [6, 21] rfl h
theorem vMo_hopAt_6 {d : Nat} {M : xM} {Q : xQ} {a0 a1 s0 : Int}
    (h : (¬ s0 = (-1) → Ru d kMo_hopOf 0 [xO 9 a0, xI s0, xU] [] M (fun r N => Ru (d + 1) kMo_hopAt 21 [xO 9 a0, xL a1, xU, xI s0] [r] N Q)) ∧ (¬ (¬ s0 = (-1)) → Ru (d + 1) kMo_hopAt 21 [xO 9 a0, xL a1, xU, xI s0] [xI (-1)] M Q)) :
    Ru (d + 1) kMo_hopAt 6 [xO 9 a0, xL a1, xU, xU] [xI s0] M Q := sx_ok cMo_hopAt 8 [6, 21] rfl h
theorem vMo_hopAt_21 {d : Nat} {M : xM} {Q : xQ} {a0 a1 a3 s0 : Int}
    (h : Q (xI s0) M) :
    Ru (d + 1) kMo_hopAt 21 [xO 9 a0, xL a1, xU, xI a3] [xI s0] M Q := sx_ok cMo_hopAt 2 [6, 21] rfl h
theorem vMo_through_0 {d : Nat} {M : xM} {Q : xQ} {a0 a1 : Int}
    (h : Ru (d + 1) kMo_through 2 [xO 9 a0, xL a1, xU, xI 0] [] M Q) :
    Ru (d + 1) kMo_through 0 [xO 9 a0, xL a1, xU, xU] [] M Q := sx_ok cMo_through 3 [2, 8] rfl h
theorem vMo_through_2 {d : Nat} {M : xM} {Q : xQ} {a0 a1 a3 : Int}
    (h : Ru d kMo_hasChild 0 [xO 9 a0, xI a3, xL a1, xU, xU, xU] [] M (fun r N => Ru (d + 1) kMo_through 8 [xO 9 a0, xL a1, xU, xI a3] [r] N Q)) :
    Ru (d + 1) kMo_through 2 [xO 9 a0, xL a1, xU, xI a3] [] M Q := sx_ok cMo_through 5 [2, 8] rfl h
theorem vMo_through_8 {d : Nat} {M : xM} {Q : xQ} {a0 a1 a3 s0 : Int}
    (h : (s0 = 0 → Q (xI (z32 (a3 + 1))) M) ∧ (¬ (s0 = 0) → Ru (d + 1) kMo_through 2 [xO 9 a0, xL a1, xU, xI (z32 (a3 + 1))] [] M Q)) :
    Ru (d + 1) kMo_through 8 [xO 9 a0, xL a1, xU, xI a3] [xI s0] M Q := sx_ok cMo_through 6 [2, 8] rfl h
theorem vMo_hasChild_0 {d : Nat} {M : xM} {Q : xQ} {a0 a1 a2 : Int}
    (h : (0 ≤ (0 : Int) ∧ (0 : Int) < 2) ∧ (((z32 (a1 + 1)) < (M (a0 + 8) 0) → Ru d kMo_lengthAt 0 [xO 9 a0, xI 0, xI (z32 (a1 + 1))] [] M (fun r N => Ru (d + 1) kMo_hasChild 22 [xO 9 a0, xI a1, xL a2, xU, xU, xU] [r] N Q)) ∧ (¬ ((z32 (a1 + 1)) < (M (a0 + 8) 0)) → Q (xI 0) M))) :
    Ru (d + 1) kMo_hasChild 0 [xO 9 a0, xI a1, xL a2, xU, xU, xU] [] M Q := sx_ok cMo_hasChild 15 [22, 25, 40] rfl h
theorem vMo_hasChild_22 {d : Nat} {M : xM} {Q : xQ} {a0 a1 a2 s0 : Int}
    (h : Ru d kMo_sizeOf 0 [xI s0] [] M (fun r N => Ru (d + 1) kMo_hasChild 25 [xO 9 a0, xI a1, xL a2, xU, xU, xU] [r] N Q)) :
    Ru (d + 1) kMo_hasChild 22 [xO 9 a0, xI a1, xL a2, xU, xU, xU] [xI s0] M Q := sx_ok cMo_hasChild 2 [22, 25, 40] rfl h
theorem vMo_hasChild_25 {d : Nat} {M : xM} {Q : xQ} {a0 a1 a2 s0 : Int}
    (h : ¬ s0 = 0 ∧ (Ru d kMo_isOne 0 [xO 9 a0, xI 0, xL (z64 (a2 - (lrem a2 s0))), xU, xL s0, xU] [] M (fun r N => Ru (d + 1) kMo_hasChild 40 [xO 9 a0, xI a1, xL a2, xU, xL s0, xU] [r] N Q))) :
    Ru (d + 1) kMo_hasChild 25 [xO 9 a0, xI a1, xL a2, xU, xU, xU] [xL s0] M Q := sx_ok cMo_hasChild 11 [22, 25, 40] rfl h
theorem vMo_hasChild_40 {d : Nat} {M : xM} {Q : xQ} {a0 a1 a2 a4 s0 : Int}
    (h : (¬ s0 = 0 → Q (xI 0) M) ∧ (¬ (¬ s0 = 0) → Q (xI 1) M)) :
    Ru (d + 1) kMo_hasChild 40 [xO 9 a0, xI a1, xL a2, xU, xL a4, xU] [xI s0] M Q := sx_ok cMo_hasChild 5 [22, 25, 40] rfl h
theorem vMo_storedPlace_0 {d : Nat} {M : xM} {Q : xQ} {a0 a1 : Int}
    (h : Ru d kMo_through 0 [xO 9 a0, xL a1, xU, xU] [] M (fun r N => Ru (d + 1) kMo_storedPlace 5 [xO 9 a0, xL a1, xU, xU, xU, xU, xU, xU] [r] N Q)) :
    Ru (d + 1) kMo_storedPlace 0 [xO 9 a0, xL a1, xU, xU, xU, xU, xU, xU] [] M Q := sx_ok cMo_storedPlace 4 [5, 16, 19, 31, 37, 50] rfl h
theorem vMo_storedPlace_5 {d : Nat} {M : xM} {Q : xQ} {a0 a1 s0 : Int}
    (h : Ru d kMo_lengthAt 0 [xO 9 a0, xI 0, xI (z32 (s0 - 1))] [] M (fun r N => Ru (d + 1) kMo_storedPlace 16 [xO 9 a0, xL a1, xU, xI (z32 (s0 - 1)), xU, xU, xU, xU] [r, xL a1, xL a1] N Q)) :
    Ru (d + 1) kMo_storedPlace 5 [xO 9 a0, xL a1, xU, xU, xU, xU, xU, xU] [xI s0] M Q := sx_ok cMo_storedPlace 10 [5, 16, 19, 31, 37, 50] rfl h
theorem vMo_storedPlace_16 {d : Nat} {M : xM} {Q : xQ} {a0 a1 a3 s0 s1 s2 : Int}
    (h : Ru d kMo_sizeOf 0 [xI s0] [] M (fun r N => Ru (d + 1) kMo_storedPlace 19 [xO 9 a0, xL a1, xU, xI a3, xU, xU, xU, xU] [r, xL s1, xL s2] N Q)) :
    Ru (d + 1) kMo_storedPlace 16 [xO 9 a0, xL a1, xU, xI a3, xU, xU, xU, xU] [xI s0, xL s1, xL s2] M Q := sx_ok cMo_storedPlace 2 [5, 16, 19, 31, 37, 50] rfl h
theorem vMo_storedPlace_19 {d : Nat} {M : xM} {Q : xQ} {a0 a1 a3 s0 s1 s2 : Int}
    (h : ¬ s0 = 0 ∧ (Ru d kMo_reads 0 [xO 9 a0, xI 0, xI a3, xL (z64 (s2 - (lrem s1 s0))), xU, xU, xU, xU, xU, xU, xU] [] M (fun r N => Ru (d + 1) kMo_storedPlace 31 [xO 9 a0, xL a1, xU, xI a3, xL (z64 (s2 - (lrem s1 s0))), xU, xU, xU] [] N Q))) :
    Ru (d + 1) kMo_storedPlace 19 [xO 9 a0, xL a1, xU, xI a3, xU, xU, xU, xU] [xL s0, xL s1, xL s2] M Q := sx_ok cMo_storedPlace 9 [5, 16, 19, 31, 37, 50] rfl h
theorem vMo_storedPlace_31 {d : Nat} {M : xM} {Q : xQ} {a0 a1 a3 a4 : Int}
    (h : Ru (d + 1) kMo_storedPlace 37 [xO 9 a0, xL a1, xU, xI a3, xL a4, xU, xI (-1), xI 0] [] M Q) :
    Ru (d + 1) kMo_storedPlace 31 [xO 9 a0, xL a1, xU, xI a3, xL a4, xU, xU, xU] [] M Q := sx_ok cMo_storedPlace 5 [5, 16, 19, 31, 37, 50] rfl h
theorem vMo_storedPlace_37 {d : Nat} {M : xM} {Q : xQ} {a0 a1 a3 a4 a6 a7 : Int}
    (h : Ru d kMo_slotSize 0 [xO 9 a0, xI 0, xI a3] [] M (fun r N => Ru (d + 1) kMo_storedPlace 50 [xO 9 a0, xL a1, xU, xI a3, xL a4, xU, xI a6, xI a7] [r, xL (z64 (a1 - a4)), xL a7] N Q)) :
    Ru (d + 1) kMo_storedPlace 37 [xO 9 a0, xL a1, xU, xI a3, xL a4, xU, xI a6, xI a7] [] M Q := sx_ok cMo_storedPlace 10 [5, 16, 19, 31, 37, 50] rfl h
theorem vMo_storedPlace_50 {d : Nat} {M : xM} {Q : xQ} {a0 a1 a3 a4 a6 a7 s0 s1 s2 : Int}
    (h : ¬ s0 = 0 ∧ (((ldiv s1 s0) < s2 → Q (xI a6) M) ∧ (¬ ((ldiv s1 s0) < s2) → Ru (d + 1) kMo_storedPlace 37 [xO 9 a0, xL a1, xU, xI a3, xL a4, xU, xI (z32 (a6 + (z32 (land (lshr (M a0 21) a7) 1)))), xI (z32 (a7 + 1))] [] M Q))) :
    Ru (d + 1) kMo_storedPlace 50 [xO 9 a0, xL a1, xU, xI a3, xL a4, xU, xI a6, xI a7] [xL s0, xL s1, xL s2] M Q := sx_ok cMo_storedPlace 15 [5, 16, 19, 31, 37, 50] rfl h
theorem vMo_hopWithout_0 {d : Nat} {M : xM} {Q : xQ} {a0 a1 : Int}
    (h : Ru d kMo_ruleOf 0 [xAI 259 (a0 + 1), xI 0, xL a1, xU, xI (-1), xU, xU] [] M (fun r N => Ru (d + 1) kMo_hopWithout 10 [xO 9 a0, xL a1, xU, xU, xU] [r] N Q)) :
    Ru (d + 1) kMo_hopWithout 0 [xO 9 a0, xL a1, xU, xU, xU] [] M Q := sx_ok cMo_hopWithout 7 [10, 28] rfl h
theorem vMo_hopWithout_10 {d : Nat} {M : xM} {Q : xQ} {a0 a1 s0 : Int}
    (h : (¬ s0 = (-1) → Ru d kMo_ruleOf 0 [xAI 259 (a0 + 1), xI 0, xL a1, xU, xI s0, xU, xU] [] M (fun r N => Ru (d + 1) kMo_hopWithout 28 [xO 9 a0, xL a1, xU, xI s0, xU] [r] N Q)) ∧ (¬ (¬ s0 = (-1)) → Q (xI (-1)) M)) :
    Ru (d + 1) kMo_hopWithout 10 [xO 9 a0, xL a1, xU, xU, xU] [xI s0] M Q := sx_ok cMo_hopWithout 11 [10, 28] rfl h
theorem vMo_hopWithout_28 {d : Nat} {M : xM} {Q : xQ} {a0 a1 a3 s0 : Int}
    (h : (¬ s0 = (-1) → (0 ≤ (z32 (122 + s0)) ∧ (z32 (122 + s0)) < 259) ∧ (Q (xI (M (a0 + 1) (z32 (122 + s0)))) M)) ∧ (¬ (¬ s0 = (-1)) → Q (xI (-1)) M)) :
    Ru (d + 1) kMo_hopWithout 28 [xO 9 a0, xL a1, xU, xI a3, xU] [xI s0] M Q := sx_ok cMo_hopWithout 12 [10, 28] rfl h
theorem vMo_look_0 {d : Nat} {M : xM} {Q : xQ} {a0 a1 a2 : Int}
    (h : Ru d kMo_unsigned 0 [xI a1] [] M (fun r N => Ru (d + 1) kMo_look 4 [xO 9 a0, xI a1, xI a2, xU, xU] [r] N Q)) :
    Ru (d + 1) kMo_look 0 [xO 9 a0, xI a1, xI a2, xU, xU] [] M Q := sx_ok cMo_look 3 [4, 45, 56, 62, 68, 74] rfl h
theorem vMo_look_4 {d : Nat} {M : xM} {Q : xQ} {a0 a1 a2 s0 : Int}
    (h : (a2 = 0 → Ru d kMo_hopAt 0 [xO 9 a0, xL s0, xU, xU] [] M (fun r N => Ru (d + 1) kMo_look 45 [xO 9 a0, xI a1, xI a2, xL s0, xU] [r] N Q)) ∧ (¬ a2 = 0 → (a2 = 1 → Ru d kMo_ruleOf 0 [xAI 259 (a0 + 1), xI 0, xL s0, xU, xI (-1), xU, xU] [] M (fun r N => Ru (d + 1) kMo_look 56 [xO 9 a0, xI a1, xI a2, xL s0, xU] [r] N Q)) ∧ (¬ a2 = 1 → (a2 = 2 → Ru d kMo_through 0 [xO 9 a0, xL s0, xU, xU] [] M (fun r N => Ru (d + 1) kMo_look 62 [xO 9 a0, xI a1, xI a2, xL s0, xU] [r] N Q)) ∧ (¬ a2 = 2 → (a2 = 3 → Ru d kMo_storedPlace 0 [xO 9 a0, xL s0, xU, xU, xU, xU, xU, xU] [] M (fun r N => Ru (d + 1) kMo_look 68 [xO 9 a0, xI a1, xI a2, xL s0, xU] [r] N Q)) ∧ (¬ a2 = 3 → (a2 = 4 → Ru d kMo_hopWithout 0 [xO 9 a0, xL s0, xU, xU, xU] [] M (fun r N => Ru (d + 1) kMo_look 74 [xO 9 a0, xI a1, xI a2, xL s0, xU] [r] N Q)) ∧ (¬ a2 = 4 → Q (xI (-1)) M)))))) :
    Ru (d + 1) kMo_look 4 [xO 9 a0, xI a1, xI a2, xU, xU] [xL s0] M Q := sx_ok cMo_look 10 [4, 45, 56, 62, 68, 74] rfl h
theorem vMo_look_45 {d : Nat} {M : xM} {Q : xQ} {a0 a1 a2 a3 s0 : Int}
    (h : Q (xI s0) M) :
    Ru (d + 1) kMo_look 45 [xO 9 a0, xI a1, xI a2, xL a3, xU] [xI s0] M Q := sx_ok cMo_look 2 [4, 45, 56, 62, 68, 74] rfl h
theorem vMo_look_56 {d : Nat} {M : xM} {Q : xQ} {a0 a1 a2 a3 s0 : Int}
    (h : Q (xI s0) M) :
    Ru (d + 1) kMo_look 56 [xO 9 a0, xI a1, xI a2, xL a3, xU] [xI s0] M Q := sx_ok cMo_look 2 [4, 45, 56, 62, 68, 74] rfl h
theorem vMo_look_62 {d : Nat} {M : xM} {Q : xQ} {a0 a1 a2 a3 s0 : Int}
    (h : Q (xI s0) M) :
    Ru (d + 1) kMo_look 62 [xO 9 a0, xI a1, xI a2, xL a3, xU] [xI s0] M Q := sx_ok cMo_look 2 [4, 45, 56, 62, 68, 74] rfl h
theorem vMo_look_68 {d : Nat} {M : xM} {Q : xQ} {a0 a1 a2 a3 s0 : Int}
    (h : Q (xI s0) M) :
    Ru (d + 1) kMo_look 68 [xO 9 a0, xI a1, xI a2, xL a3, xU] [xI s0] M Q := sx_ok cMo_look 2 [4, 45, 56, 62, 68, 74] rfl h
theorem vMo_look_74 {d : Nat} {M : xM} {Q : xQ} {a0 a1 a2 a3 s0 : Int}
    (h : Q (xI s0) M) :
    Ru (d + 1) kMo_look 74 [xO 9 a0, xI a1, xI a2, xL a3, xU] [xI s0] M Q := sx_ok cMo_look 2 [4, 45, 56, 62, 68, 74] rfl h
theorem vMo_path_0 {d : Nat} {M : xM} {Q : xQ} {a0 a1 a2 : Int}
    (h : (0 ≤ a2 → Ru d kMo_unsigned 0 [xI a1] [] M (fun r N => Ru (d + 1) kMo_path 12 [xO 9 a0, xI a1, xI a2] [r, xO 9 a0, xI a2] N Q)) ∧ (¬ (0 ≤ a2) → Q (xI (-1)) M)) :
    Ru (d + 1) kMo_path 0 [xO 9 a0, xI a1, xI a2] [] M Q := sx_ok cMo_path 7 [12, 15, 24, 27] rfl h
theorem vMo_path_12 {d : Nat} {M : xM} {Q : xQ} {a0 a1 a2 s0 s1 s2 : Int}
    (h : Ru d kMo_through 0 [xO 9 s1, xL s0, xU, xU] [] M (fun r N => Ru (d + 1) kMo_path 15 [xO 9 a0, xI a1, xI a2] [r, xI s2] N Q)) :
    Ru (d + 1) kMo_path 12 [xO 9 a0, xI a1, xI a2] [xL s0, xO 9 s1, xI s2] M Q := sx_ok cMo_path 2 [12, 15, 24, 27] rfl h
theorem vMo_path_15 {d : Nat} {M : xM} {Q : xQ} {a0 a1 a2 s0 s1 : Int}
    (h : (s0 ≤ s1 → Q (xI (-2)) M) ∧ (¬ (s0 ≤ s1) → Ru d kMo_unsigned 0 [xI a1] [] M (fun r N => Ru (d + 1) kMo_path 24 [xO 9 a0, xI a1, xI a2] [r, xI a2, xO 9 a0] N Q))) :
    Ru (d + 1) kMo_path 15 [xO 9 a0, xI a1, xI a2] [xI s0, xI s1] M Q := sx_ok cMo_path 6 [12, 15, 24, 27] rfl h
theorem vMo_path_24 {d : Nat} {M : xM} {Q : xQ} {a0 a1 a2 s0 s1 s2 : Int}
    (h : Ru d kMo_nodeAt 0 [xO 9 s2, xI s1, xL s0, xU, xU, xU, xU, xU, xU] [] M (fun r N => Ru (d + 1) kMo_path 27 [xO 9 a0, xI a1, xI a2] [r] N Q)) :
    Ru (d + 1) kMo_path 24 [xO 9 a0, xI a1, xI a2] [xL s0, xI s1, xO 9 s2] M Q := sx_ok cMo_path 2 [12, 15, 24, 27] rfl h
theorem vMo_path_27 {d : Nat} {M : xM} {Q : xQ} {a0 a1 a2 s0 : Int}
    (h : Q (xI s0) M) :
    Ru (d + 1) kMo_path 27 [xO 9 a0, xI a1, xI a2] [xI s0] M Q := sx_ok cMo_path 3 [12, 15, 24, 27] rfl h
theorem vMo_within_0 {d : Nat} {M : xM} {Q : xQ} {a0 a1 a2 a3 : Int}
    (h : Ru d kMo_isBeginning 0 [xI a1, xI a2] [] M (fun r N => Ru (d + 1) kMo_within 5 [xO 9 a0, xI a1, xI a2, xI a3, xU, xU] [r] N Q)) :
    Ru (d + 1) kMo_within 0 [xO 9 a0, xI a1, xI a2, xI a3, xU, xU] [] M Q := sx_ok cMo_within 4 [5, 21, 52, 56, 60, 64, 70] rfl h
theorem vMo_within_5 {d : Nat} {M : xM} {Q : xQ} {a0 a1 a2 a3 s0 : Int}
    (h : (s0 = 0 → Q (xI (-1)) M) ∧ (¬ (s0 = 0) → ((-1) ≤ a3 → Ru (d + 1) kMo_within 21 [xO 9 a0, xI a1, xI a2, xI a3, xI 0, xI 0] [] M Q) ∧ (¬ ((-1) ≤ a3) → Q (xI (-1)) M))) :
    Ru (d + 1) kMo_within 5 [xO 9 a0, xI a1, xI a2, xI a3, xU, xU] [xI s0] M Q := sx_ok cMo_within 9 [5, 21, 52, 56, 60, 64, 70] rfl h
theorem vMo_within_21 {d : Nat} {M : xM} {Q : xQ} {a0 a1 a2 a3 a4 a5 : Int}
    (h : (0 ≤ (0 : Int) ∧ (0 : Int) < 259) ∧ (((M (a0 + 1) 0) ≤ a5 → (¬ a3 = (-1) → Q (xI (-2)) M) ∧ (¬ (¬ a3 = (-1)) → Q (xI a4) M)) ∧ (¬ ((M (a0 + 1) 0) ≤ a5) → (0 ≤ (z32 (62 + a5)) ∧ (z32 (62 + a5)) < 259) ∧ (((M (a0 + 1) (z32 (62 + a5))) < a2 → Ru (d + 1) kMo_within 21 [xO 9 a0, xI a1, xI a2, xI a3, xI a4, xI (z32 (a5 + 1))] [] M Q) ∧ (¬ ((M (a0 + 1) (z32 (62 + a5))) < a2) → Ru d kMo_valueOf 0 [xO 9 a0, xI a5] [] M (fun r N => Ru (d + 1) kMo_within 52 [xO 9 a0, xI a1, xI a2, xI a3, xI a4, xI a5] [r] N Q)))))) :
    Ru (d + 1) kMo_within 21 [xO 9 a0, xI a1, xI a2, xI a3, xI a4, xI a5] [] M Q := sx_ok cMo_within 18 [5, 21, 52, 56, 60, 64, 70] rfl h
theorem vMo_within_52 {d : Nat} {M : xM} {Q : xQ} {a0 a1 a2 a3 a4 a5 s0 : Int}
    (h : Ru d kMo_unsigned 0 [xI a1] [] M (fun r N => Ru (d + 1) kMo_within 56 [xO 9 a0, xI a1, xI a2, xI a3, xI a4, xI a5] [r, xL s0] N Q)) :
    Ru (d + 1) kMo_within 52 [xO 9 a0, xI a1, xI a2, xI a3, xI a4, xI a5] [xL s0] M Q := sx_ok cMo_within 3 [5, 21, 52, 56, 60, 64, 70] rfl h
theorem vMo_within_56 {d : Nat} {M : xM} {Q : xQ} {a0 a1 a2 a3 a4 a5 s0 s1 : Int}
    (h : Ru d kMo_unsigned 0 [xI a1] [] M (fun r N => Ru (d + 1) kMo_within 60 [xO 9 a0, xI a1, xI a2, xI a3, xI a4, xI a5] [r, xL s0, xL s1] N Q)) :
    Ru (d + 1) kMo_within 56 [xO 9 a0, xI a1, xI a2, xI a3, xI a4, xI a5] [xL s0, xL s1] M Q := sx_ok cMo_within 3 [5, 21, 52, 56, 60, 64, 70] rfl h
theorem vMo_within_60 {d : Nat} {M : xM} {Q : xQ} {a0 a1 a2 a3 a4 a5 s0 s1 s2 : Int}
    (h : Ru d kMo_sizeOf 0 [xI a2] [] M (fun r N => Ru (d + 1) kMo_within 64 [xO 9 a0, xI a1, xI a2, xI a3, xI a4, xI a5] [r, xL s0, xL s1, xL s2] N Q)) :
    Ru (d + 1) kMo_within 60 [xO 9 a0, xI a1, xI a2, xI a3, xI a4, xI a5] [xL s0, xL s1, xL s2] M Q := sx_ok cMo_within 3 [5, 21, 52, 56, 60, 64, 70] rfl h
theorem vMo_within_64 {d : Nat} {M : xM} {Q : xQ} {a0 a1 a2 a3 a4 a5 s0 s1 s2 s3 : Int}
    (h : Ru d kMo_isIn 0 [xL s3, xU, xL s2, xU, xL (z64 ((z64 (s1 + s0)) - 1)), xU] [] M (fun r N => Ru (d + 1) kMo_within 70 [xO 9 a0, xI a1, xI a2, xI a3, xI a4, xI a5] [r] N Q)) :
    Ru (d + 1) kMo_within 64 [xO 9 a0, xI a1, xI a2, xI a3, xI a4, xI a5] [xL s0, xL s1, xL s2, xL s3] M Q := sx_ok cMo_within 5 [5, 21, 52, 56, 60, 64, 70] rfl h
theorem vMo_within_70 {d : Nat} {M : xM} {Q : xQ} {a0 a1 a2 a3 a4 a5 s0 : Int}
    (h : (¬ s0 = 0 → (¬ a4 = a3 → Ru (d + 1) kMo_within 21 [xO 9 a0, xI a1, xI a2, xI a3, xI (z32 (a4 + 1)), xI (z32 (a5 + 1))] [] M Q) ∧ (¬ (¬ a4 = a3) → Q (xI a5) M)) ∧ (¬ (¬ s0 = 0) → Ru (d + 1) kMo_within 21 [xO 9 a0, xI a1, xI a2, xI a3, xI a4, xI (z32 (a5 + 1))] [] M Q)) :
    Ru (d + 1) kMo_within 70 [xO 9 a0, xI a1, xI a2, xI a3, xI a4, xI a5] [xI s0] M Q := sx_ok cMo_within 8 [5, 21, 52, 56, 60, 64, 70] rfl h
theorem vMo_differs_0 {d : Nat} {M : xM} {Q : xQ} {a0 a1 a2 : Int}
    (h : Ru d kMo_isShelf 0 [xI a1] [] M (fun r N => Ru (d + 1) kMo_differs 4 [xO 9 a0, xI a1, xI a2, xU, xU, xU, xU, xU, xU, xU, xU, xU, xU] [r] N Q)) :
    Ru (d + 1) kMo_differs 0 [xO 9 a0, xI a1, xI a2, xU, xU, xU, xU, xU, xU, xU, xU, xU, xU] [] M Q := sx_ok cMo_differs 3 [4, 23, 44, 60, 76, 83, 94, 104, 149, 158, 181] rfl h
theorem vMo_differs_4 {d : Nat} {M : xM} {Q : xQ} {a0 a1 a2 s0 : Int}
    (h : (s0 = 0 → Q (xL (-1)) M) ∧ (¬ (s0 = 0) → (0 ≤ a1 ∧ a1 < 2) ∧ (((M (a0 + 4) a1) = 0 → Q (xL (-1)) M) ∧ (¬ ((M (a0 + 4) a1) = 0) → Ru d kMo_isIn 0 [xL a2, xU, xL 0, xU, xL 1, xU] [] M (fun r N => Ru (d + 1) kMo_differs 23 [xO 9 a0, xI a1, xI a2, xU, xU, xU, xU, xU, xU, xU, xU, xU, xU] [r] N Q))))) :
    Ru (d + 1) kMo_differs 4 [xO 9 a0, xI a1, xI a2, xU, xU, xU, xU, xU, xU, xU, xU, xU, xU] [xI s0] M Q := sx_ok cMo_differs 12 [4, 23, 44, 60, 76, 83, 94, 104, 149, 158, 181] rfl h
theorem vMo_differs_23 {d : Nat} {M : xM} {Q : xQ} {a0 a1 a2 s0 : Int}
    (h : (¬ s0 = 0 → Ru d kMo_laysTable 0 [xO 9 a0, xI 1, xAI 518 (a0 + 3), xI (z32 (259 * a1)), xU, xU, xU] [] M (fun r N => Ru (d + 1) kMo_differs 44 [xO 9 a0, xI a1, xI a2, xU, xU, xU, xU, xU, xU, xU, xU, xU, xU] [] N Q)) ∧ (¬ (¬ s0 = 0) → Q (xL (-1)) M)) :
    Ru (d + 1) kMo_differs 23 [xO 9 a0, xI a1, xI a2, xU, xU, xU, xU, xU, xU, xU, xU, xU, xU] [xI s0] M Q := sx_ok cMo_differs 10 [4, 23, 44, 60, 76, 83, 94, 104, 149, 158, 181] rfl h
theorem vMo_differs_44 {d : Nat} {M : xM} {Q : xQ} {a0 a1 a2 : Int}
    (h : Ru (d + 1) kMo_differs 60 [xO 9 a0, xI a1, xI a2, xL 0, xU, xL (-2), xU, xI 0, xI 0, xL 0, xU, xU, xU] [] M Q) :
    Ru (d + 1) kMo_differs 44 [xO 9 a0, xI a1, xI a2, xU, xU, xU, xU, xU, xU, xU, xU, xU, xU] [] M Q := sx_ok cMo_differs 11 [4, 23, 44, 60, 76, 83, 94, 104, 149, 158, 181] rfl h
theorem vMo_differs_60 {d : Nat} {M : xM} {Q : xQ} {a0 a1 a2 a3 a5 a7 a8 a9 : Int} {w11 : xV}
    (h : (4294967296 ≤ a9 → (¬ a2 = 0 → Q (xL a5) M) ∧ (¬ (¬ a2 = 0) → Q (xL a3) M)) ∧ (¬ (4294967296 ≤ a9) → Ru d kMo_behindRow 0 [xO 9 a0, xI 0, xI a7] [] M (fun r N => Ru (d + 1) kMo_differs 76 [xO 9 a0, xI a1, xI a2, xL a3, xU, xL a5, xU, xI a7, xI a8, xL a9, xU, w11, xU] [r] N Q))) :
    Ru (d + 1) kMo_differs 60 [xO 9 a0, xI a1, xI a2, xL a3, xU, xL a5, xU, xI a7, xI a8, xL a9, xU, w11, xU] [] M Q := sx_ok cMo_differs 9 [4, 23, 44, 60, 76, 83, 94, 104, 149, 158, 181] rfl h
theorem vMo_differs_76 {d : Nat} {M : xM} {Q : xQ} {a0 a1 a2 a3 a5 a7 a8 a9 s0 : Int} {w11 : xV}
    (h : Ru d kMo_behindRow 0 [xO 9 a0, xI 1, xI a8] [] M (fun r N => Ru (d + 1) kMo_differs 83 [xO 9 a0, xI a1, xI a2, xL a3, xU, xL a5, xU, xI a7, xI a8, xL a9, xU, w11, xU] [r, xL s0] N Q)) :
    Ru (d + 1) kMo_differs 76 [xO 9 a0, xI a1, xI a2, xL a3, xU, xL a5, xU, xI a7, xI a8, xL a9, xU, w11, xU] [xL s0] M Q := sx_ok cMo_differs 5 [4, 23, 44, 60, 76, 83, 94, 104, 149, 158, 181] rfl h
theorem vMo_differs_83 {d : Nat} {M : xM} {Q : xQ} {a0 a1 a2 a3 a5 a7 a8 a9 s0 s1 : Int} {w11 : xV}
    (h : (s0 ≤ s1 → Ru d kMo_behindRow 0 [xO 9 a0, xI 1, xI a8] [] M (fun r N => Ru (d + 1) kMo_differs 104 [xO 9 a0, xI a1, xI a2, xL a3, xU, xL a5, xU, xI a7, xI a8, xL a9, xU, w11, xU] [r] N Q)) ∧ (¬ (s0 ≤ s1) → Ru d kMo_behindRow 0 [xO 9 a0, xI 0, xI a7] [] M (fun r N => Ru (d + 1) kMo_differs 94 [xO 9 a0, xI a1, xI a2, xL a3, xU, xL a5, xU, xI a7, xI a8, xL a9, xU, w11, xU] [r] N Q))) :
    Ru (d + 1) kMo_differs 83 [xO 9 a0, xI a1, xI a2, xL a3, xU, xL a5, xU, xI a7, xI a8, xL a9, xU, w11, xU] [xL s0, xL s1] M Q := sx_ok cMo_differs 6 [4, 23, 44, 60, 76, 83, 94, 104, 149, 158, 181] rfl h
theorem vMo_differs_94 {d : Nat} {M : xM} {Q : xQ} {a0 a1 a2 a3 a5 a7 a8 a9 s0 : Int} {w11 : xV}
    (h : Ru (d + 1) kMo_differs 104 [xO 9 a0, xI a1, xI a2, xL a3, xU, xL a5, xU, xI a7, xI a8, xL a9, xU, w11, xU] [xL s0] M Q) :
    Ru (d + 1) kMo_differs 94 [xO 9 a0, xI a1, xI a2, xL a3, xU, xL a5, xU, xI a7, xI a8, xL a9, xU, w11, xU] [xL s0] M Q := sx_ok cMo_differs 2 [4, 23, 44, 60, 76, 83, 94, 104, 149, 158, 181] rfl h
theorem vMo_differs_104 {d : Nat} {M : xM} {Q : xQ} {a0 a1 a2 a3 a5 a7 a8 a9 s0 : Int} {w11 : xV}
    (h : (0 ≤ a7 ∧ a7 < 248) ∧ ((0 ≤ (z32 (124 + a8)) ∧ (z32 (124 + a8)) < 248) ∧ (((M (a0 + 7) a7) = (M (a0 + 7) (z32 (124 + a8))) → Ru (d + 1) kMo_differs 149 [xO 9 a0, xI a1, xI a2, xL a3, xU, xL a5, xU, xI a7, xI a8, xL a9, xU, xL s0, xU] [] M Q) ∧ (¬ ((M (a0 + 7) a7) = (M (a0 + 7) (z32 (124 + a8)))) → (¬ a3 = 0 → Ru (d + 1) kMo_differs 149 [xO 9 a0, xI a1, xI a2, xL (z64 (a3 + (z64 (s0 - a9)))), xU, xL a5, xU, xI a7, xI a8, xL a9, xU, xL s0, xU] [] M Q) ∧ (¬ (¬ a3 = 0) → Ru (d + 1) kMo_differs 149 [xO 9 a0, xI a1, xI a2, xL (z64 (a3 + (z64 (s0 - a9)))), xU, xL a9, xU, xI a7, xI a8, xL a9, xU, xL s0, xU] [] M Q))))) :
    Ru (d + 1) kMo_differs 104 [xO 9 a0, xI a1, xI a2, xL a3, xU, xL a5, xU, xI a7, xI a8, xL a9, xU, w11, xU] [xL s0] M Q := sx_ok cMo_differs 25 [4, 23, 44, 60, 76, 83, 94, 104, 149, 158, 181] rfl h
theorem vMo_differs_149 {d : Nat} {M : xM} {Q : xQ} {a0 a1 a2 a3 a5 a7 a8 a9 a11 : Int}
    (h : Ru d kMo_behindRow 0 [xO 9 a0, xI 0, xI a7] [] M (fun r N => Ru (d + 1) kMo_differs 158 [xO 9 a0, xI a1, xI a2, xL a3, xU, xL a5, xU, xI a7, xI a8, xL a9, xU, xL a11, xU] [r, xI a7] N Q)) :
    Ru (d + 1) kMo_differs 149 [xO 9 a0, xI a1, xI a2, xL a3, xU, xL a5, xU, xI a7, xI a8, xL a9, xU, xL a11, xU] [] M Q := sx_ok cMo_differs 6 [4, 23, 44, 60, 76, 83, 94, 104, 149, 158, 181] rfl h
theorem vMo_differs_158 {d : Nat} {M : xM} {Q : xQ} {a0 a1 a2 a3 a5 a7 a8 a9 a11 s0 s1 : Int}
    (h : (¬ s0 = a11 → Ru d kMo_behindRow 0 [xO 9 a0, xI 1, xI a8] [] M (fun r N => Ru (d + 1) kMo_differs 181 [xO 9 a0, xI a1, xI a2, xL a3, xU, xL a5, xU, xI (z32 (s1 + 0)), xI a8, xL a9, xU, xL a11, xU] [r, xI a8] N Q)) ∧ (¬ (¬ s0 = a11) → Ru d kMo_behindRow 0 [xO 9 a0, xI 1, xI a8] [] M (fun r N => Ru (d + 1) kMo_differs 181 [xO 9 a0, xI a1, xI a2, xL a3, xU, xL a5, xU, xI (z32 (s1 + 1)), xI a8, xL a9, xU, xL a11, xU] [r, xI a8] N Q))) :
    Ru (d + 1) kMo_differs 158 [xO 9 a0, xI a1, xI a2, xL a3, xU, xL a5, xU, xI a7, xI a8, xL a9, xU, xL a11, xU] [xL s0, xI s1] M Q := sx_ok cMo_differs 12 [4, 23, 44, 60, 76, 83, 94, 104, 149, 158, 181] rfl h
theorem vMo_differs_181 {d : Nat} {M : xM} {Q : xQ} {a0 a1 a2 a3 a5 a7 a8 a9 a11 s0 s1 : Int}
    (h : (¬ s0 = a11 → Ru (d + 1) kMo_differs 60 [xO 9 a0, xI a1, xI a2, xL a3, xU, xL a5, xU, xI a7, xI (z32 (s1 + 0)), xL a11, xU, xL a11, xU] [] M Q) ∧ (¬ (¬ s0 = a11) → Ru (d + 1) kMo_differs 60 [xO 9 a0, xI a1, xI a2, xL a3, xU, xL a5, xU, xI a7, xI (z32 (s1 + 1)), xL a11, xU, xL a11, xU] [] M Q)) :
    Ru (d + 1) kMo_differs 181 [xO 9 a0, xI a1, xI a2, xL a3, xU, xL a5, xU, xI a7, xI a8, xL a9, xU, xL a11, xU] [xL s0, xI s1] M Q := sx_ok cMo_differs 10 [4, 23, 44, 60, 76, 83, 94, 104, 149, 158, 181] rfl h
theorem vMo_servedBy_0 {d : Nat} {M : xM} {Q : xQ} {a0 a1 : Int}
    (h : Ru d kMo_laysPlaces 0 [xO 9 a0, xAI 259 (a0 + 1), xI 0, xU] [] M (fun r N => Ru (d + 1) kMo_servedBy 9 [xO 9 a0, xI a1, xU, xU, xU] [] N Q)) :
    Ru (d + 1) kMo_servedBy 0 [xO 9 a0, xI a1, xU, xU, xU] [] M Q := sx_ok cMo_servedBy 6 [9, 14] rfl h
theorem vMo_servedBy_9 {d : Nat} {M : xM} {Q : xQ} {a0 a1 : Int}
    (h : Ru (d + 1) kMo_servedBy 14 [xO 9 a0, xI a1, xL 0, xU, xI 0] [] M Q) :
    Ru (d + 1) kMo_servedBy 9 [xO 9 a0, xI a1, xU, xU, xU] [] M Q := sx_ok cMo_servedBy 5 [9, 14] rfl h
theorem vMo_servedBy_14 {d : Nat} {M : xM} {Q : xQ} {a0 a1 a2 a4 : Int}
    (h : ((M a0 12) ≤ a4 → Q (xL a2) M) ∧ (¬ ((M a0 12) ≤ a4) → (0 ≤ a4 ∧ a4 < 124) ∧ ((¬ (M (a0 + 12) a4) = a1 → Ru (d + 1) kMo_servedBy 14 [xO 9 a0, xI a1, xL a2, xU, xI (z32 (a4 + 1))] [] M Q) ∧ (¬ (¬ (M (a0 + 12) a4) = a1) → ((M a0 12) ≤ (z32 (a4 + 1)) → (0 ≤ a4 ∧ a4 < 124) ∧ (Ru (d + 1) kMo_servedBy 14 [xO 9 a0, xI a1, xL (z64 (a2 + (z64 (4294967296 - (M (a0 + 11) a4))))), xU, xI (z32 (a4 + 1))] [] M Q)) ∧ (¬ ((M a0 12) ≤ (z32 (a4 + 1))) → (0 ≤ (z32 (a4 + 1)) ∧ (z32 (a4 + 1)) < 124) ∧ ((0 ≤ a4 ∧ a4 < 124) ∧ (Ru (d + 1) kMo_servedBy 14 [xO 9 a0, xI a1, xL (z64 (a2 + (z64 ((M (a0 + 11) (z32 (a4 + 1))) - (M (a0 + 11) a4))))), xU, xI (z32 (a4 + 1))] [] M Q))))))) :
    Ru (d + 1) kMo_servedBy 14 [xO 9 a0, xI a1, xL a2, xU, xI a4] [] M Q := sx_ok cMo_servedBy 34 [9, 14] rfl h
theorem vMo_parentOf_0 {d : Nat} {M : xM} {Q : xQ} {a0 a1 : Int}
    (h : Ru (d + 1) kMo_parentOf 4 [xO 9 a0, xI a1, xI (-1), xI 0] [] M Q) :
    Ru (d + 1) kMo_parentOf 0 [xO 9 a0, xI a1, xU, xU] [] M Q := sx_ok cMo_parentOf 5 [4, 45, 50, 59, 64] rfl h
theorem vMo_parentOf_4 {d : Nat} {M : xM} {Q : xQ} {a0 a1 a2 a3 : Int}
    (h : (0 ≤ (0 : Int) ∧ (0 : Int) < 259) ∧ (((M (a0 + 1) 0) ≤ a3 → Q (xI a2) M) ∧ (¬ ((M (a0 + 1) 0) ≤ a3) → (a3 = a1 → Ru (d + 1) kMo_parentOf 4 [xO 9 a0, xI a1, xI a2, xI (z32 (a3 + 1))] [] M Q) ∧ (¬ (a3 = a1) → (0 ≤ (z32 (62 + a3)) ∧ (z32 (62 + a3)) < 259) ∧ ((0 ≤ (z32 (62 + a1)) ∧ (z32 (62 + a1)) < 259) ∧ (((M (a0 + 1) (z32 (62 + a1))) ≤ (M (a0 + 1) (z32 (62 + a3))) → Ru (d + 1) kMo_parentOf 4 [xO 9 a0, xI a1, xI a2, xI (z32 (a3 + 1))] [] M Q) ∧ (¬ ((M (a0 + 1) (z32 (62 + a1))) ≤ (M (a0 + 1) (z32 (62 + a3)))) → Ru d kMo_valueOf 0 [xO 9 a0, xI a1] [] M (fun r N => Ru (d + 1) kMo_parentOf 45 [xO 9 a0, xI a1, xI a2, xI a3] [r] N Q)))))))) :
    Ru (d + 1) kMo_parentOf 4 [xO 9 a0, xI a1, xI a2, xI a3] [] M Q := sx_ok cMo_parentOf 26 [4, 45, 50, 59, 64] rfl h
theorem vMo_parentOf_45 {d : Nat} {M : xM} {Q : xQ} {a0 a1 a2 a3 s0 : Int}
    (h : Ru d kMo_valueOf 0 [xO 9 a0, xI a3] [] M (fun r N => Ru (d + 1) kMo_parentOf 50 [xO 9 a0, xI a1, xI a2, xI a3] [r, xL s0] N Q)) :
    Ru (d + 1) kMo_parentOf 45 [xO 9 a0, xI a1, xI a2, xI a3] [xL s0] M Q := sx_ok cMo_parentOf 4 [4, 45, 50, 59, 64] rfl h
theorem vMo_parentOf_50 {d : Nat} {M : xM} {Q : xQ} {a0 a1 a2 a3 s0 s1 : Int}
    (h : Ru d kMo_behindOf 0 [xAI 259 (a0 + 1), xI 0, xI a3] [] M (fun r N => Ru (d + 1) kMo_parentOf 59 [xO 9 a0, xI a1, xI a2, xI a3] [r, xL s0, xL s1] N Q)) :
    Ru (d + 1) kMo_parentOf 50 [xO 9 a0, xI a1, xI a2, xI a3] [xL s0, xL s1] M Q := sx_ok cMo_parentOf 6 [4, 45, 50, 59, 64] rfl h
theorem vMo_parentOf_59 {d : Nat} {M : xM} {Q : xQ} {a0 a1 a2 a3 s0 s1 s2 : Int}
    (h : Ru d kMo_isIn 0 [xL s2, xU, xL s1, xU, xL (z64 (s0 - 1)), xU] [] M (fun r N => Ru (d + 1) kMo_parentOf 64 [xO 9 a0, xI a1, xI a2, xI a3] [r] N Q)) :
    Ru (d + 1) kMo_parentOf 59 [xO 9 a0, xI a1, xI a2, xI a3] [xL s0, xL s1, xL s2] M Q := sx_ok cMo_parentOf 4 [4, 45, 50, 59, 64] rfl h
theorem vMo_parentOf_64 {d : Nat} {M : xM} {Q : xQ} {a0 a1 a2 a3 s0 : Int}
    (h : (¬ s0 = 0 → (a2 = (-1) → Ru (d + 1) kMo_parentOf 4 [xO 9 a0, xI a1, xI a3, xI (z32 (a3 + 1))] [] M Q) ∧ (¬ (a2 = (-1)) → (0 ≤ (z32 (62 + a3)) ∧ (z32 (62 + a3)) < 259) ∧ ((0 ≤ (z32 (62 + a2)) ∧ (z32 (62 + a2)) < 259) ∧ (((M (a0 + 1) (z32 (62 + a3))) ≤ (M (a0 + 1) (z32 (62 + a2))) → Ru (d + 1) kMo_parentOf 4 [xO 9 a0, xI a1, xI a2, xI (z32 (a3 + 1))] [] M Q) ∧ (¬ ((M (a0 + 1) (z32 (62 + a3))) ≤ (M (a0 + 1) (z32 (62 + a2)))) → Ru (d + 1) kMo_parentOf 4 [xO 9 a0, xI a1, xI a3, xI (z32 (a3 + 1))] [] M Q))))) ∧ (¬ (¬ s0 = 0) → Ru (d + 1) kMo_parentOf 4 [xO 9 a0, xI a1, xI a2, xI (z32 (a3 + 1))] [] M Q)) :
    Ru (d + 1) kMo_parentOf 64 [xO 9 a0, xI a1, xI a2, xI a3] [xI s0] M Q := sx_ok cMo_parentOf 22 [4, 45, 50, 59, 64] rfl h
theorem vMo_isRule_0 {d : Nat} {M : xM} {Q : xQ} {a0 a1 : Int}
    (h : (0 ≤ (0 : Int) ∧ (0 : Int) < 259) ∧ (Ru d kMo_isIn 0 [xL a1, xU, xL 0, xU, xL (z32 ((M (a0 + 1) 0) - 1)), xU] [] M (fun r N => Ru (d + 1) kMo_isRule 15 [xO 9 a0, xI a1] [r] N Q))) :
    Ru (d + 1) kMo_isRule 0 [xO 9 a0, xI a1] [] M Q := sx_ok cMo_isRule 12 [15] rfl h
theorem vMo_isRule_15 {d : Nat} {M : xM} {Q : xQ} {a0 a1 s0 : Int}
    (h : rb s0 (Q (xI s0) M)) :
    Ru (d + 1) kMo_isRule 15 [xO 9 a0, xI a1] [xI s0] M Q := sx_ok cMo_isRule 2 [15] rfl h
theorem vMo_rule_0 {d : Nat} {M : xM} {Q : xQ} {a0 a1 a2 : Int}
    (h : Ru d kMo_isRule 0 [xO 9 a0, xI a1] [] M (fun r N => Ru (d + 1) kMo_rule 5 [xO 9 a0, xI a1, xI a2] [r] N Q)) :
    Ru (d + 1) kMo_rule 0 [xO 9 a0, xI a1, xI a2] [] M Q := sx_ok cMo_rule 4 [5, 90, 106] rfl h
theorem vMo_rule_5 {d : Nat} {M : xM} {Q : xQ} {a0 a1 a2 s0 : Int}
    (h : (¬ s0 = 0 → (a2 = 0 → (0 ≤ (z32 (2 + a1)) ∧ (z32 (2 + a1)) < 259) ∧ (Q (xI (M (a0 + 1) (z32 (2 + a1)))) M)) ∧ (¬ a2 = 0 → (a2 = 1 → (0 ≤ (z32 (62 + a1)) ∧ (z32 (62 + a1)) < 259) ∧ (Q (xI (M (a0 + 1) (z32 (62 + a1)))) M)) ∧ (¬ a2 = 1 → (a2 = 2 → (0 ≤ (z32 (122 + a1)) ∧ (z32 (122 + a1)) < 259) ∧ (Q (xI (M (a0 + 1) (z32 (122 + a1)))) M)) ∧ (¬ a2 = 2 → (a2 = 3 → Ru d kMo_servedBy 0 [xO 9 a0, xI a1, xU, xU, xU] [] M (fun r N => Ru (d + 1) kMo_rule 90 [xO 9 a0, xI a1, xI a2] [r] N Q)) ∧ (¬ a2 = 3 → (a2 = 4 → Ru d kMo_parentOf 0 [xO 9 a0, xI a1, xU, xU] [] M (fun r N => Ru (d + 1) kMo_rule 106 [xO 9 a0, xI a1, xI a2] [r] N Q)) ∧ (¬ a2 = 4 → Q (xI (-2)) M)))))) ∧ (¬ (¬ s0 = 0) → (¬ a2 = 0 → Q (xI (-2)) M) ∧ (¬ (¬ a2 = 0) → Q (xI 0) M))) :
    Ru (d + 1) kMo_rule 5 [xO 9 a0, xI a1, xI a2] [xI s0] M Q := sx_ok cMo_rule 11 [5, 90, 106] rfl h
theorem vMo_rule_90 {d : Nat} {M : xM} {Q : xQ} {a0 a1 a2 s0 : Int}
    (h : (¬ s0 = 0 → Q (xI 0) M) ∧ (¬ (¬ s0 = 0) → Q (xI 1) M)) :
    Ru (d + 1) kMo_rule 90 [xO 9 a0, xI a1, xI a2] [xL s0] M Q := sx_ok cMo_rule 6 [5, 90, 106] rfl h
theorem vMo_rule_106 {d : Nat} {M : xM} {Q : xQ} {a0 a1 a2 s0 : Int}
    (h : Q (xI s0) M) :
    Ru (d + 1) kMo_rule 106 [xO 9 a0, xI a1, xI a2] [xI s0] M Q := sx_ok cMo_rule 2 [5, 90, 106] rfl h
theorem vMo_served_0 {d : Nat} {M : xM} {Q : xQ} {a0 a1 : Int}
    (h : Ru d kMo_isRule 0 [xO 9 a0, xI a1] [] M (fun r N => Ru (d + 1) kMo_served 5 [xO 9 a0, xI a1] [r] N Q)) :
    Ru (d + 1) kMo_served 0 [xO 9 a0, xI a1] [] M Q := sx_ok cMo_served 4 [5, 13] rfl h
theorem vMo_served_5 {d : Nat} {M : xM} {Q : xQ} {a0 a1 s0 : Int}
    (h : (s0 = 0 → Q (xL (-1)) M) ∧ (¬ (s0 = 0) → Ru d kMo_servedBy 0 [xO 9 a0, xI a1, xU, xU, xU] [] M (fun r N => Ru (d + 1) kMo_served 13 [xO 9 a0, xI a1] [r] N Q))) :
    Ru (d + 1) kMo_served 5 [xO 9 a0, xI a1] [xI s0] M Q := sx_ok cMo_served 5 [5, 13] rfl h
theorem vMo_served_13 {d : Nat} {M : xM} {Q : xQ} {a0 a1 s0 : Int}
    (h : Q (xL s0) M) :
    Ru (d + 1) kMo_served 13 [xO 9 a0, xI a1] [xL s0] M Q := sx_ok cMo_served 3 [5, 13] rfl h
theorem vMo_isHop_0 {d : Nat} {M : xM} {Q : xQ} {a0 a1 : Int}
    (h : Ru d kMo_isIn 0 [xL a1, xU, xL 0, xU, xL 60, xU] [] M (fun r N => Ru (d + 1) kMo_isHop 9 [xO 9 a0, xI a1] [r] N Q)) :
    Ru (d + 1) kMo_isHop 0 [xO 9 a0, xI a1] [] M Q := sx_ok cMo_isHop 6 [9] rfl h
theorem vMo_isHop_9 {d : Nat} {M : xM} {Q : xQ} {a0 a1 s0 : Int}
    (h : (s0 = 0 → Q (xI 0) M) ∧ (¬ (s0 = 0) → (0 ≤ (z32 (182 + a1)) ∧ (z32 (182 + a1)) < 259) ∧ (((M (a0 + 1) (z32 (182 + a1))) = (-1) → Q (xI 0) M) ∧ (¬ ((M (a0 + 1) (z32 (182 + a1))) = (-1)) → Q (xI 1) M)))) :
    Ru (d + 1) kMo_isHop 9 [xO 9 a0, xI a1] [xI s0] M Q := sx_ok cMo_isHop 13 [9] rfl h
theorem vMo_hop_0 {d : Nat} {M : xM} {Q : xQ} {a0 a1 a2 : Int}
    (h : Ru d kMo_isHop 0 [xO 9 a0, xI a1] [] M (fun r N => Ru (d + 1) kMo_hop 5 [xO 9 a0, xI a1, xI a2] [r] N Q)) :
    Ru (d + 1) kMo_hop 0 [xO 9 a0, xI a1, xI a2] [] M Q := sx_ok cMo_hop 4 [5, 69] rfl h
theorem vMo_hop_5 {d : Nat} {M : xM} {Q : xQ} {a0 a1 a2 s0 : Int}
    (h : (¬ s0 = 0 → (a2 = 0 → (0 ≤ (z32 (182 + a1)) ∧ (z32 (182 + a1)) < 259) ∧ (¬ (10 : Int) = 0 ∧ (Q (xI (idiv (M (a0 + 1) (z32 (182 + a1))) 10)) M))) ∧ (¬ a2 = 0 → (a2 = 1 → (0 ≤ (z32 (182 + a1)) ∧ (z32 (182 + a1)) < 259) ∧ (¬ (10 : Int) = 0 ∧ (Q (xI (irem (M (a0 + 1) (z32 (182 + a1))) 10)) M))) ∧ (¬ a2 = 1 → (a2 = 2 → Ru d kMo_rulesOf 0 [xO 9 a0, xI a1, xU, xU] [] M (fun r N => Ru (d + 1) kMo_hop 69 [xO 9 a0, xI a1, xI a2] [r] N Q)) ∧ (¬ a2 = 2 → Q (xI (-1)) M)))) ∧ (¬ (¬ s0 = 0) → Q (xI (-1)) M)) :
    Ru (d + 1) kMo_hop 5 [xO 9 a0, xI a1, xI a2] [xI s0] M Q := sx_ok cMo_hop 13 [5, 69] rfl h
theorem vMo_hop_69 {d : Nat} {M : xM} {Q : xQ} {a0 a1 a2 s0 : Int}
    (h : Q (xI s0) M) :
    Ru (d + 1) kMo_hop 69 [xO 9 a0, xI a1, xI a2] [xI s0] M Q := sx_ok cMo_hop 2 [5, 69] rfl h
theorem vMo_reach_0 {d : Nat} {M : xM} {Q : xQ} {a0 a1 : Int}
    (h : (a1 = (-1) → Ru (d + 1) kMo_reach 17 [xO 9 a0, xI a1, xU, xU, xU, xU] [] M Q) ∧ (¬ (a1 = (-1)) → Ru d kMo_isHop 0 [xO 9 a0, xI a1] [] M (fun r N => Ru (d + 1) kMo_reach 10 [xO 9 a0, xI a1, xU, xU, xU, xU] [r] N Q))) :
    Ru (d + 1) kMo_reach 0 [xO 9 a0, xI a1, xU, xU, xU, xU] [] M Q := sx_ok cMo_reach 7 [10, 17, 42, 72] rfl h
theorem vMo_reach_10 {d : Nat} {M : xM} {Q : xQ} {a0 a1 s0 : Int}
    (h : (¬ s0 = 0 → Ru (d + 1) kMo_reach 17 [xO 9 a0, xI a1, xU, xU, xU, xU] [] M Q) ∧ (¬ (¬ s0 = 0) → Q (xL (-2)) M)) :
    Ru (d + 1) kMo_reach 10 [xO 9 a0, xI a1, xU, xU, xU, xU] [xI s0] M Q := sx_ok cMo_reach 4 [10, 17, 42, 72] rfl h
theorem vMo_reach_17 {d : Nat} {M : xM} {Q : xQ} {a0 a1 : Int}
    (h : (¬ a1 = (-1) → (0 ≤ (z32 (182 + a1)) ∧ (z32 (182 + a1)) < 259) ∧ (Ru (d + 1) kMo_reach 42 [xO 9 a0, xI a1, xI (M (a0 + 1) (z32 (182 + a1))), xL 0, xU, xI 0] [] M Q)) ∧ (¬ (¬ a1 = (-1)) → Ru (d + 1) kMo_reach 42 [xO 9 a0, xI a1, xI (-1), xL 0, xU, xI 0] [] M Q)) :
    Ru (d + 1) kMo_reach 17 [xO 9 a0, xI a1, xU, xU, xU, xU] [] M Q := sx_ok cMo_reach 15 [10, 17, 42, 72] rfl h
theorem vMo_reach_42 {d : Nat} {M : xM} {Q : xQ} {a0 a1 a2 a3 a5 : Int}
    (h : (0 ≤ (0 : Int) ∧ (0 : Int) < 2) ∧ (((M (a0 + 5) 0) ≤ a5 → Q (xL a3) M) ∧ (¬ ((M (a0 + 5) 0) ≤ a5) → (0 ≤ a5 ∧ a5 < 248) ∧ ((¬ (M (a0 + 7) a5) = a2 → Ru (d + 1) kMo_reach 42 [xO 9 a0, xI a1, xI a2, xL (z64 (a3 + 0)), xU, xI (z32 (a5 + 1))] [] M Q) ∧ (¬ (¬ (M (a0 + 7) a5) = a2) → Ru d kMo_behindRow 0 [xO 9 a0, xI 0, xI a5] [] M (fun r N => Ru (d + 1) kMo_reach 72 [xO 9 a0, xI a1, xI a2, xL a3, xU, xI a5] [r, xL a3] N Q)))))) :
    Ru (d + 1) kMo_reach 42 [xO 9 a0, xI a1, xI a2, xL a3, xU, xI a5] [] M Q := sx_ok cMo_reach 19 [10, 17, 42, 72] rfl h
theorem vMo_reach_72 {d : Nat} {M : xM} {Q : xQ} {a0 a1 a2 a3 a5 s0 s1 : Int}
    (h : (0 ≤ a5 ∧ a5 < 248) ∧ (Ru (d + 1) kMo_reach 42 [xO 9 a0, xI a1, xI a2, xL (z64 (s1 + (z64 (s0 - (M (a0 + 6) a5))))), xU, xI (z32 (a5 + 1))] [] M Q)) :
    Ru (d + 1) kMo_reach 72 [xO 9 a0, xI a1, xI a2, xL a3, xU, xI a5] [xL s0, xL s1] M Q := sx_ok cMo_reach 11 [10, 17, 42, 72] rfl h
theorem vMo_isNode_0 {d : Nat} {M : xM} {Q : xQ} {a0 a1 : Int}
    (h : Ru d kMo_isIn 0 [xL a1, xU, xL 0, xU, xL (z32 ((M a0 15) - 1)), xU] [] M (fun r N => Ru (d + 1) kMo_isNode 13 [xO 9 a0, xI a1] [r] N Q)) :
    Ru (d + 1) kMo_isNode 0 [xO 9 a0, xI a1] [] M Q := sx_ok cMo_isNode 10 [13] rfl h
theorem vMo_isNode_13 {d : Nat} {M : xM} {Q : xQ} {a0 a1 s0 : Int}
    (h : rb s0 (Q (xI s0) M)) :
    Ru (d + 1) kMo_isNode 13 [xO 9 a0, xI a1] [xI s0] M Q := sx_ok cMo_isNode 2 [13] rfl h
theorem vMo_parentNode_0 {d : Nat} {M : xM} {Q : xQ} {a0 a1 : Int}
    (h : (0 ≤ a1 ∧ a1 < 2000) ∧ ((¬ (M (a0 + 13) a1) = 0 → (0 ≤ a1 ∧ a1 < 2000) ∧ ((0 ≤ a1 ∧ a1 < 2000) ∧ (Ru d kMo_nodeAt 0 [xO 9 a0, xI (z32 ((M (a0 + 13) a1) - 1)), xL (M (a0 + 14) a1), xU, xU, xU, xU, xU, xU] [] M (fun r N => Ru (d + 1) kMo_parentNode 31 [xO 9 a0, xI a1] [r] N Q)))) ∧ (¬ (¬ (M (a0 + 13) a1) = 0) → Ru (d + 1) kMo_parentNode 31 [xO 9 a0, xI a1] [xI (-1)] M Q))) :
    Ru (d + 1) kMo_parentNode 0 [xO 9 a0, xI a1] [] M Q := sx_ok cMo_parentNode 18 [31] rfl h
theorem vMo_parentNode_31 {d : Nat} {M : xM} {Q : xQ} {a0 a1 s0 : Int}
    (h : Q (xI s0) M) :
    Ru (d + 1) kMo_parentNode 31 [xO 9 a0, xI a1] [xI s0] M Q := sx_ok cMo_parentNode 2 [31] rfl h
theorem vMo_node_0 {d : Nat} {M : xM} {Q : xQ} {a0 a1 a2 : Int}
    (h : Ru d kMo_isNode 0 [xO 9 a0, xI a1] [] M (fun r N => Ru (d + 1) kMo_node 5 [xO 9 a0, xI a1, xI a2] [r] N Q)) :
    Ru (d + 1) kMo_node 0 [xO 9 a0, xI a1, xI a2] [] M Q := sx_ok cMo_node 4 [5, 17, 54, 124] rfl h
theorem vMo_node_5 {d : Nat} {M : xM} {Q : xQ} {a0 a1 a2 s0 : Int}
    (h : (s0 = 0 → (a2 = 0 → Q (xL 0) M) ∧ (¬ (a2 = 0) → (¬ a2 = 1 → Q (xL (-2)) M) ∧ (¬ (¬ a2 = 1) → Q (xL 0) M))) ∧ (¬ (s0 = 0) → Ru d kMo_isIn 0 [xL a2, xU, xL 0, xU, xL 5, xU] [] M (fun r N => Ru (d + 1) kMo_node 17 [xO 9 a0, xI a1, xI a2] [r] N Q))) :
    Ru (d + 1) kMo_node 5 [xO 9 a0, xI a1, xI a2] [xI s0] M Q := sx_ok cMo_node 10 [5, 17, 54, 124] rfl h
theorem vMo_node_17 {d : Nat} {M : xM} {Q : xQ} {a0 a1 a2 s0 : Int}
    (h : (¬ s0 = 0 → (0 ≤ a1 ∧ a1 < 2000) ∧ ((0 ≤ a1 ∧ a1 < 2000) ∧ (Ru d kMo_reads 0 [xO 9 a0, xI 0, xI (M (a0 + 13) a1), xL (M (a0 + 14) a1), xU, xU, xU, xU, xU, xU, xU] [] M (fun r N => Ru (d + 1) kMo_node 54 [xO 9 a0, xI a1, xI a2] [] N Q)))) ∧ (¬ (¬ s0 = 0) → (a2 = 0 → Q (xL 0) M) ∧ (¬ (a2 = 0) → (¬ a2 = 1 → Q (xL (-2)) M) ∧ (¬ (¬ a2 = 1) → Q (xL 0) M)))) :
    Ru (d + 1) kMo_node 17 [xO 9 a0, xI a1, xI a2] [xI s0] M Q := sx_ok cMo_node 13 [5, 17, 54, 124] rfl h
theorem vMo_node_54 {d : Nat} {M : xM} {Q : xQ} {a0 a1 a2 : Int}
    (h : (a2 = 0 → Q (xL (M a0 20)) M) ∧ (¬ a2 = 0 → (a2 = 1 → Q (xL (M a0 21)) M) ∧ (¬ a2 = 1 → (a2 = 2 → (0 ≤ a1 ∧ a1 < 2000) ∧ (Q (xL (M (a0 + 13) a1)) M)) ∧ (¬ a2 = 2 → (a2 = 3 → (0 ≤ a1 ∧ a1 < 2000) ∧ (Q (xL (M (a0 + 14) a1)) M)) ∧ (¬ a2 = 3 → (a2 = 4 → Q (xL (M a0 22)) M) ∧ (¬ a2 = 4 → Ru d kMo_parentNode 0 [xO 9 a0, xI a1] [] M (fun r N => Ru (d + 1) kMo_node 124 [xO 9 a0, xI a1, xI a2] [r] N Q))))))) :
    Ru (d + 1) kMo_node 54 [xO 9 a0, xI a1, xI a2] [] M Q := sx_ok cMo_node 9 [5, 17, 54, 124] rfl h
theorem vMo_node_124 {d : Nat} {M : xM} {Q : xQ} {a0 a1 a2 s0 : Int}
    (h : Q (xL s0) M) :
    Ru (d + 1) kMo_node 124 [xO 9 a0, xI a1, xI a2] [xI s0] M Q := sx_ok cMo_node 3 [5, 17, 54, 124] rfl h
theorem vMo_hopBy_0 {d : Nat} {M : xM} {Q : xQ} {a0 a1 : Int}
    (h : (¬ a1 = (-1) → Ru d kMo_hopOf 0 [xO 9 a0, xI a1, xU] [] M (fun r N => Ru (d + 1) kMo_hopBy 14 [xO 9 a0, xI a1] [r] N Q)) ∧ (¬ (¬ a1 = (-1)) → Ru (d + 1) kMo_hopBy 14 [xO 9 a0, xI a1] [xI (-1)] M Q)) :
    Ru (d + 1) kMo_hopBy 0 [xO 9 a0, xI a1] [] M Q := sx_ok cMo_hopBy 7 [14] rfl h
theorem vMo_hopBy_14 {d : Nat} {M : xM} {Q : xQ} {a0 a1 s0 : Int}
    (h : Q (xI s0) M) :
    Ru (d + 1) kMo_hopBy 14 [xO 9 a0, xI a1] [xI s0] M Q := sx_ok cMo_hopBy 2 [14] rfl h
theorem vMo_stored_0 {d : Nat} {M : xM} {Q : xQ} {a0 a1 a2 : Int}
    (h : Ru d kMo_isNode 0 [xO 9 a0, xI a1] [] M (fun r N => Ru (d + 1) kMo_stored 5 [xO 9 a0, xI a1, xI a2] [r] N Q)) :
    Ru (d + 1) kMo_stored 0 [xO 9 a0, xI a1, xI a2] [] M Q := sx_ok cMo_stored 4 [5, 28, 41, 54] rfl h
theorem vMo_stored_5 {d : Nat} {M : xM} {Q : xQ} {a0 a1 a2 s0 : Int}
    (h : (¬ s0 = 0 → (0 ≤ a1 ∧ a1 < 2000) ∧ ((0 ≤ a1 ∧ a1 < 2000) ∧ (Ru d kMo_reads 0 [xO 9 a0, xI 0, xI (M (a0 + 13) a1), xL (M (a0 + 14) a1), xU, xU, xU, xU, xU, xU, xU] [] M (fun r N => Ru (d + 1) kMo_stored 28 [xO 9 a0, xI a1, xI a2] [] N Q)))) ∧ (¬ (¬ s0 = 0) → Q (xI (-2)) M)) :
    Ru (d + 1) kMo_stored 5 [xO 9 a0, xI a1, xI a2] [xI s0] M Q := sx_ok cMo_stored 13 [5, 28, 41, 54] rfl h
theorem vMo_stored_28 {d : Nat} {M : xM} {Q : xQ} {a0 a1 a2 : Int}
    (h : Ru d kMo_isIn 0 [xL a2, xU, xL 0, xU, xL (z32 ((M a0 22) - 1)), xU] [] M (fun r N => Ru (d + 1) kMo_stored 41 [xO 9 a0, xI a1, xI a2] [r] N Q)) :
    Ru (d + 1) kMo_stored 28 [xO 9 a0, xI a1, xI a2] [] M Q := sx_ok cMo_stored 10 [5, 28, 41, 54] rfl h
theorem vMo_stored_41 {d : Nat} {M : xM} {Q : xQ} {a0 a1 a2 s0 : Int}
    (h : (s0 = 0 → Q (xI (-2)) M) ∧ (¬ (s0 = 0) → (0 ≤ a2 ∧ a2 < 64) ∧ (Ru d kMo_hopBy 0 [xO 9 a0, xI (M (a0 + 16) a2)] [] M (fun r N => Ru (d + 1) kMo_stored 54 [xO 9 a0, xI a1, xI a2] [r] N Q)))) :
    Ru (d + 1) kMo_stored 41 [xO 9 a0, xI a1, xI a2] [xI s0] M Q := sx_ok cMo_stored 8 [5, 28, 41, 54] rfl h
theorem vMo_stored_54 {d : Nat} {M : xM} {Q : xQ} {a0 a1 a2 s0 : Int}
    (h : Q (xI s0) M) :
    Ru (d + 1) kMo_stored 54 [xO 9 a0, xI a1, xI a2] [xI s0] M Q := sx_ok cMo_stored 3 [5, 28, 41, 54] rfl h
theorem vMo_slotFirst_0 {d : Nat} {M : xM} {Q : xQ} {a0 a1 a2 : Int}
    (h : (0 ≤ a1 ∧ a1 < 2000) ∧ ((0 ≤ a1 ∧ a1 < 2000) ∧ (Ru d kMo_slotSize 0 [xO 9 a0, xI 0, xI (M (a0 + 13) a1)] [] M (fun r N => Ru (d + 1) kMo_slotFirst 19 [xO 9 a0, xI a1, xI a2] [r, xL a2, xL (M (a0 + 14) a1)] N Q)))) :
    Ru (d + 1) kMo_slotFirst 0 [xO 9 a0, xI a1, xI a2] [] M Q := sx_ok cMo_slotFirst 14 [19] rfl h
theorem vMo_slotFirst_19 {d : Nat} {M : xM} {Q : xQ} {a0 a1 a2 s0 s1 s2 : Int}
    (h : Q (xL (z64 (s2 + (z64 (s1 * s0))))) M) :
    Ru (d + 1) kMo_slotFirst 19 [xO 9 a0, xI a1, xI a2] [xL s0, xL s1, xL s2] M Q := sx_ok cMo_slotFirst 4 [19] rfl h
theorem vMo_leads_0 {d : Nat} {M : xM} {Q : xQ} {a0 a1 a2 : Int}
    (h : Ru d kMo_slotFirst 0 [xO 9 a0, xI a1, xI a2] [] M (fun r N => Ru (d + 1) kMo_leads 8 [xO 9 a0, xI a1, xI a2] [r, xI 0, xO 9 a0] N Q)) :
    Ru (d + 1) kMo_leads 0 [xO 9 a0, xI a1, xI a2] [] M Q := sx_ok cMo_leads 7 [8, 19, 22] rfl h
theorem vMo_leads_8 {d : Nat} {M : xM} {Q : xQ} {a0 a1 a2 s0 s1 s2 : Int}
    (h : (0 ≤ a1 ∧ a1 < 2000) ∧ (Ru d kMo_slotSize 0 [xO 9 a0, xI 0, xI (M (a0 + 13) a1)] [] M (fun r N => Ru (d + 1) kMo_leads 19 [xO 9 a0, xI a1, xI a2] [r, xL s0, xI s1, xO 9 s2] N Q))) :
    Ru (d + 1) kMo_leads 8 [xO 9 a0, xI a1, xI a2] [xL s0, xI s1, xO 9 s2] M Q := sx_ok cMo_leads 8 [8, 19, 22] rfl h
theorem vMo_leads_19 {d : Nat} {M : xM} {Q : xQ} {a0 a1 a2 s0 s1 s2 s3 : Int}
    (h : Ru d kMo_isOne 0 [xO 9 s3, xI s2, xL s1, xU, xL s0, xU] [] M (fun r N => Ru (d + 1) kMo_leads 22 [xO 9 a0, xI a1, xI a2] [r] N Q)) :
    Ru (d + 1) kMo_leads 19 [xO 9 a0, xI a1, xI a2] [xL s0, xL s1, xI s2, xO 9 s3] M Q := sx_ok cMo_leads 2 [8, 19, 22] rfl h
theorem vMo_leads_22 {d : Nat} {M : xM} {Q : xQ} {a0 a1 a2 s0 : Int}
    (h : (¬ s0 = 0 → Q (xI 0) M) ∧ (¬ (¬ s0 = 0) → Q (xI 1) M)) :
    Ru (d + 1) kMo_leads 22 [xO 9 a0, xI a1, xI a2] [xI s0] M Q := sx_ok cMo_leads 5 [8, 19, 22] rfl h
theorem vMo_slot_0 {d : Nat} {M : xM} {Q : xQ} {a0 a1 a2 a3 : Int}
    (h : Ru d kMo_isNode 0 [xO 9 a0, xI a1] [] M (fun r N => Ru (d + 1) kMo_slot 5 [xO 9 a0, xI a1, xI a2, xI a3, xU] [r] N Q)) :
    Ru (d + 1) kMo_slot 0 [xO 9 a0, xI a1, xI a2, xI a3, xU] [] M Q := sx_ok cMo_slot 4 [5, 22, 28, 38, 50, 76, 79, 103, 106, 109] rfl h
theorem vMo_slot_5 {d : Nat} {M : xM} {Q : xQ} {a0 a1 a2 a3 s0 : Int}
    (h : (s0 = 0 → Q (xI (-3)) M) ∧ (¬ (s0 = 0) → (0 ≤ a1 ∧ a1 < 2000) ∧ (Ru d kMo_slotsAt 0 [xO 9 a0, xI 0, xI (M (a0 + 13) a1)] [] M (fun r N => Ru (d + 1) kMo_slot 22 [xO 9 a0, xI a1, xI a2, xI a3, xU] [r, xL 0, xL a2] N Q)))) :
    Ru (d + 1) kMo_slot 5 [xO 9 a0, xI a1, xI a2, xI a3, xU] [xI s0] M Q := sx_ok cMo_slot 12 [5, 22, 28, 38, 50, 76, 79, 103, 106, 109] rfl h
theorem vMo_slot_22 {d : Nat} {M : xM} {Q : xQ} {a0 a1 a2 a3 s0 s1 s2 : Int}
    (h : Ru d kMo_isIn 0 [xL s2, xU, xL s1, xU, xL (z32 (s0 - 1)), xU] [] M (fun r N => Ru (d + 1) kMo_slot 28 [xO 9 a0, xI a1, xI a2, xI a3, xU] [r] N Q)) :
    Ru (d + 1) kMo_slot 22 [xO 9 a0, xI a1, xI a2, xI a3, xU] [xI s0, xL s1, xL s2] M Q := sx_ok cMo_slot 5 [5, 22, 28, 38, 50, 76, 79, 103, 106, 109] rfl h
theorem vMo_slot_28 {d : Nat} {M : xM} {Q : xQ} {a0 a1 a2 a3 s0 : Int}
    (h : (s0 = 0 → Q (xI (-3)) M) ∧ (¬ (s0 = 0) → Ru d kMo_isIn 0 [xL a3, xU, xL 0, xU, xL 1, xU] [] M (fun r N => Ru (d + 1) kMo_slot 38 [xO 9 a0, xI a1, xI a2, xI a3, xU] [r] N Q))) :
    Ru (d + 1) kMo_slot 28 [xO 9 a0, xI a1, xI a2, xI a3, xU] [xI s0] M Q := sx_ok cMo_slot 7 [5, 22, 28, 38, 50, 76, 79, 103, 106, 109] rfl h
theorem vMo_slot_38 {d : Nat} {M : xM} {Q : xQ} {a0 a1 a2 a3 s0 : Int}
    (h : (¬ s0 = 0 → Ru d kMo_leads 0 [xO 9 a0, xI a1, xI a2] [] M (fun r N => Ru (d + 1) kMo_slot 50 [xO 9 a0, xI a1, xI a2, xI a3, xU] [r] N Q)) ∧ (¬ (¬ s0 = 0) → Q (xI (-3)) M)) :
    Ru (d + 1) kMo_slot 38 [xO 9 a0, xI a1, xI a2, xI a3, xU] [xI s0] M Q := sx_ok cMo_slot 6 [5, 22, 28, 38, 50, 76, 79, 103, 106, 109] rfl h
theorem vMo_slot_50 {d : Nat} {M : xM} {Q : xQ} {a0 a1 a2 a3 s0 : Int}
    (h : (¬ a3 = 0 → (s0 = 0 → Ru d kMo_slotFirst 0 [xO 9 a0, xI a1, xI a2] [] M (fun r N => Ru (d + 1) kMo_slot 103 [xO 9 a0, xI a1, xI a2, xI a3, xI s0] [r, xI 0, xO 9 a0, xO 9 a0] N Q)) ∧ (¬ (s0 = 0) → Ru (d + 1) kMo_slot 109 [xO 9 a0, xI a1, xI a2, xI a3, xI s0] [xI (-2)] M Q)) ∧ (¬ (¬ a3 = 0) → (s0 = 0 → Q (xI (-1)) M) ∧ (¬ (s0 = 0) → (0 ≤ a1 ∧ a1 < 2000) ∧ (Ru d kMo_slotFirst 0 [xO 9 a0, xI a1, xI a2] [] M (fun r N => Ru (d + 1) kMo_slot 76 [xO 9 a0, xI a1, xI a2, xI a3, xI s0] [r, xI (z32 ((M (a0 + 13) a1) + 1)), xO 9 a0] N Q))))) :
    Ru (d + 1) kMo_slot 50 [xO 9 a0, xI a1, xI a2, xI a3, xU] [xI s0] M Q := sx_ok cMo_slot 17 [5, 22, 28, 38, 50, 76, 79, 103, 106, 109] rfl h
theorem vMo_slot_76 {d : Nat} {M : xM} {Q : xQ} {a0 a1 a2 a3 a4 s0 s1 s2 : Int}
    (h : Ru d kMo_nodeAt 0 [xO 9 s2, xI s1, xL s0, xU, xU, xU, xU, xU, xU] [] M (fun r N => Ru (d + 1) kMo_slot 79 [xO 9 a0, xI a1, xI a2, xI a3, xI a4] [r] N Q)) :
    Ru (d + 1) kMo_slot 76 [xO 9 a0, xI a1, xI a2, xI a3, xI a4] [xL s0, xI s1, xO 9 s2] M Q := sx_ok cMo_slot 2 [5, 22, 28, 38, 50, 76, 79, 103, 106, 109] rfl h
theorem vMo_slot_79 {d : Nat} {M : xM} {Q : xQ} {a0 a1 a2 a3 a4 s0 : Int}
    (h : Q (xI s0) M) :
    Ru (d + 1) kMo_slot 79 [xO 9 a0, xI a1, xI a2, xI a3, xI a4] [xI s0] M Q := sx_ok cMo_slot 3 [5, 22, 28, 38, 50, 76, 79, 103, 106, 109] rfl h
theorem vMo_slot_103 {d : Nat} {M : xM} {Q : xQ} {a0 a1 a2 a3 a4 s0 s1 s2 s3 : Int}
    (h : Ru d kMo_codeAt 0 [xO 9 s2, xI s1, xL s0, xU] [] M (fun r N => Ru (d + 1) kMo_slot 106 [xO 9 a0, xI a1, xI a2, xI a3, xI a4] [r, xO 9 s3] N Q)) :
    Ru (d + 1) kMo_slot 103 [xO 9 a0, xI a1, xI a2, xI a3, xI a4] [xL s0, xI s1, xO 9 s2, xO 9 s3] M Q := sx_ok cMo_slot 2 [5, 22, 28, 38, 50, 76, 79, 103, 106, 109] rfl h
theorem vMo_slot_106 {d : Nat} {M : xM} {Q : xQ} {a0 a1 a2 a3 a4 s0 s1 : Int}
    (h : Ru d kMo_hopBy 0 [xO 9 s1, xI s0] [] M (fun r N => Ru (d + 1) kMo_slot 109 [xO 9 a0, xI a1, xI a2, xI a3, xI a4] [r] N Q)) :
    Ru (d + 1) kMo_slot 106 [xO 9 a0, xI a1, xI a2, xI a3, xI a4] [xI s0, xO 9 s1] M Q := sx_ok cMo_slot 2 [5, 22, 28, 38, 50, 76, 79, 103, 106, 109] rfl h
theorem vMo_slot_109 {d : Nat} {M : xM} {Q : xQ} {a0 a1 a2 a3 a4 s0 : Int}
    (h : Q (xI s0) M) :
    Ru (d + 1) kMo_slot 109 [xO 9 a0, xI a1, xI a2, xI a3, xI a4] [xI s0] M Q := sx_ok cMo_slot 2 [5, 22, 28, 38, 50, 76, 79, 103, 106, 109] rfl h
theorem vMo_laysKinds_0 {d : Nat} {M : xM} {Q : xQ} {a0 a1 : Int}
    (h : (0 ≤ a1 ∧ a1 < 2000) ∧ ((0 ≤ (0 : Int) ∧ (0 : Int) < 2) ∧ (((M (a0 + 8) 0) ≤ (z32 ((M (a0 + 13) a1) + 1)) → Ru (d + 1) kMo_laysKinds 35 [xO 9 a0, xI a1, xI (M (a0 + 13) a1), xI 0, xI 0, xU, xU] [] M Q) ∧ (¬ ((M (a0 + 8) 0) ≤ (z32 ((M (a0 + 13) a1) + 1))) → (0 ≤ (z32 ((M (a0 + 13) a1) + 1)) ∧ (z32 ((M (a0 + 13) a1) + 1)) < 18) ∧ (Ru (d + 1) kMo_laysKinds 35 [xO 9 a0, xI a1, xI (M (a0 + 13) a1), xI (M (a0 + 15) (z32 ((M (a0 + 13) a1) + 1))), xI 0, xU, xU] [] M Q))))) :
    Ru (d + 1) kMo_laysKinds 0 [xO 9 a0, xI a1, xU, xU, xU, xU, xU] [] M Q := sx_ok cMo_laysKinds 24 [35, 43, 53, 62, 83, 87] rfl h
theorem vMo_laysKinds_35 {d : Nat} {M : xM} {Q : xQ} {a0 a1 a2 a3 a4 : Int} {w5 : xV}
    (h : Ru d kMo_slotsAt 0 [xO 9 a0, xI 0, xI a2] [] M (fun r N => Ru (d + 1) kMo_laysKinds 43 [xO 9 a0, xI a1, xI a2, xI a3, xI a4, w5, xU] [r, xI a4] N Q)) :
    Ru (d + 1) kMo_laysKinds 35 [xO 9 a0, xI a1, xI a2, xI a3, xI a4, w5, xU] [] M Q := sx_ok cMo_laysKinds 6 [35, 43, 53, 62, 83, 87] rfl h
theorem vMo_laysKinds_43 {d : Nat} {M : xM} {Q : xQ} {a0 a1 a2 a3 a4 s0 s1 : Int} {w5 : xV}
    (h : (s0 ≤ s1 → Q xU M) ∧ (¬ (s0 ≤ s1) → Ru d kMo_slotFirst 0 [xO 9 a0, xI a1, xI a4] [] M (fun r N => Ru (d + 1) kMo_laysKinds 53 [xO 9 a0, xI a1, xI a2, xI a3, xI a4, w5, xU] [r] N Q))) :
    Ru (d + 1) kMo_laysKinds 43 [xO 9 a0, xI a1, xI a2, xI a3, xI a4, w5, xU] [xI s0, xI s1] M Q := sx_ok cMo_laysKinds 6 [35, 43, 53, 62, 83, 87] rfl h
theorem vMo_laysKinds_53 {d : Nat} {M : xM} {Q : xQ} {a0 a1 a2 a3 a4 s0 : Int} {w5 : xV}
    (h : Ru d kMo_leads 0 [xO 9 a0, xI a1, xI a4] [] M (fun r N => Ru (d + 1) kMo_laysKinds 62 [xO 9 a0, xI a1, xI a2, xI a3, xI a4, xL s0, xU] [r] N Q)) :
    Ru (d + 1) kMo_laysKinds 53 [xO 9 a0, xI a1, xI a2, xI a3, xI a4, w5, xU] [xL s0] M Q := sx_ok cMo_laysKinds 6 [35, 43, 53, 62, 83, 87] rfl h
theorem vMo_laysKinds_62 {d : Nat} {M : xM} {Q : xQ} {a0 a1 a2 a3 a4 a5 s0 : Int}
    (h : (¬ s0 = 0 → Ru (d + 1) kMo_laysKinds 87 [xO 9 a0, xI a1, xI a2, xI a3, xI a4, xL a5, xU] [] M Q) ∧ (¬ (¬ s0 = 0) → Ru d kMo_codeAt 0 [xO 9 a0, xI 0, xL a5, xU] [] M (fun r N => Ru (d + 1) kMo_laysKinds 83 [xO 9 a0, xI a1, xI a2, xI a3, xI a4, xL a5, xU] [r, xI (z32 ((z32 (64 * a1)) + a4)), xAI 128000 (a0 + 27)] N Q))) :
    Ru (d + 1) kMo_laysKinds 62 [xO 9 a0, xI a1, xI a2, xI a3, xI a4, xL a5, xU] [xI s0] M Q := sx_ok cMo_laysKinds 13 [35, 43, 53, 62, 83, 87] rfl h
theorem vMo_laysKinds_83 {d : Nat} {M : xM} {Q : xQ} {a0 a1 a2 a3 a4 a5 s0 s1 s2 : Int}
    (h : (0 ≤ s1 ∧ s1 < 128000) ∧ (Ru (d + 1) kMo_laysKinds 35 [xO 9 a0, xI a1, xI a2, xI a3, xI (z32 (a4 + 1)), xL a5, xU] [] (up M s2 s1 s0) Q)) :
    Ru (d + 1) kMo_laysKinds 83 [xO 9 a0, xI a1, xI a2, xI a3, xI a4, xL a5, xU] [xI s0, xI s1, xAI 128000 s2] M Q := sx_ok cMo_laysKinds 5 [35, 43, 53, 62, 83, 87] rfl h
theorem vMo_laysKinds_87 {d : Nat} {M : xM} {Q : xQ} {a0 a1 a2 a3 a4 a5 : Int}
    (h : (0 ≤ a3 ∧ a3 < 2000) ∧ ((a5 ≤ (M (a0 + 14) a3) → (0 ≤ a3 ∧ a3 < 2000) ∧ ((0 ≤ (z32 ((z32 (64 * a1)) + a4)) ∧ (z32 ((z32 (64 * a1)) + a4)) < 128000) ∧ (Ru (d + 1) kMo_laysKinds 35 [xO 9 a0, xI a1, xI a2, xI a3, xI (z32 (a4 + 1)), xL a5, xU] [] (up M (a0 + 27) (z32 ((z32 (64 * a1)) + a4)) (z32 (2000 + (M (a0 + 26) a3)))) Q))) ∧ (¬ (a5 ≤ (M (a0 + 14) a3)) → Ru (d + 1) kMo_laysKinds 87 [xO 9 a0, xI a1, xI a2, xI (z32 (a3 + 1)), xI a4, xL a5, xU] [] M Q))) :
    Ru (d + 1) kMo_laysKinds 87 [xO 9 a0, xI a1, xI a2, xI a3, xI a4, xL a5, xU] [] M Q := sx_ok cMo_laysKinds 23 [35, 43, 53, 62, 83, 87] rfl h
theorem vMo_areLike_0 {d : Nat} {M : xM} {Q : xQ} {a0 a1 a2 : Int}
    (h : Ru (d + 1) kMo_areLike 2 [xO 9 a0, xI a1, xI a2, xI 0] [] M Q) :
    Ru (d + 1) kMo_areLike 0 [xO 9 a0, xI a1, xI a2, xU] [] M Q := sx_ok cMo_areLike 3 [2, 14] rfl h
theorem vMo_areLike_2 {d : Nat} {M : xM} {Q : xQ} {a0 a1 a2 a3 : Int}
    (h : (0 ≤ a1 ∧ a1 < 2000) ∧ (Ru d kMo_slotsAt 0 [xO 9 a0, xI 0, xI (M (a0 + 13) a1)] [] M (fun r N => Ru (d + 1) kMo_areLike 14 [xO 9 a0, xI a1, xI a2, xI a3] [r, xI a3] N Q))) :
    Ru (d + 1) kMo_areLike 2 [xO 9 a0, xI a1, xI a2, xI a3] [] M Q := sx_ok cMo_areLike 9 [2, 14] rfl h
theorem vMo_areLike_14 {d : Nat} {M : xM} {Q : xQ} {a0 a1 a2 a3 s0 s1 : Int}
    (h : (s0 ≤ s1 → Q (xI 1) M) ∧ (¬ (s0 ≤ s1) → (0 ≤ (z32 ((z32 (64 * a1)) + a3)) ∧ (z32 ((z32 (64 * a1)) + a3)) < 128000) ∧ ((0 ≤ (z32 ((z32 (64 * a2)) + a3)) ∧ (z32 ((z32 (64 * a2)) + a3)) < 128000) ∧ (((M (a0 + 27) (z32 ((z32 (64 * a1)) + a3))) = (M (a0 + 27) (z32 ((z32 (64 * a2)) + a3))) → Ru (d + 1) kMo_areLike 2 [xO 9 a0, xI a1, xI a2, xI (z32 (a3 + 1))] [] M Q) ∧ (¬ ((M (a0 + 27) (z32 ((z32 (64 * a1)) + a3))) = (M (a0 + 27) (z32 ((z32 (64 * a2)) + a3)))) → Q (xI 0) M))))) :
    Ru (d + 1) kMo_areLike 14 [xO 9 a0, xI a1, xI a2, xI a3] [xI s0, xI s1] M Q := sx_ok cMo_areLike 21 [2, 14] rfl h
theorem vMo_laysClasses_0 {d : Nat} {M : xM} {Q : xQ} {a0 : Int}
    (h : ((M a0 19) = 0 → (0 ≤ (0 : Int) ∧ (0 : Int) < 2) ∧ (Ru (d + 1) kMo_laysClasses 22 [xO 9 a0, xI (z32 (((up M a0 19 1) (a0 + 8) 0) - 1)), xU, xU] [] (up M a0 19 1) Q)) ∧ (¬ ((M a0 19) = 0) → Q xU M)) :
    Ru (d + 1) kMo_laysClasses 0 [xO 9 a0, xU, xU, xU] [] M Q := sx_ok cMo_laysClasses 14 [22, 33, 50, 57, 78] rfl h
theorem vMo_laysClasses_22 {d : Nat} {M : xM} {Q : xQ} {a0 a1 : Int} {w2 w3 : xV}
    (h : (a1 < 0 → Q xU M) ∧ (¬ (a1 < 0) → (0 ≤ a1 ∧ a1 < 18) ∧ (Ru (d + 1) kMo_laysClasses 33 [xO 9 a0, xI a1, xI (M (a0 + 15) a1), w3] [] M Q))) :
    Ru (d + 1) kMo_laysClasses 22 [xO 9 a0, xI a1, w2, w3] [] M Q := sx_ok cMo_laysClasses 8 [22, 33, 50, 57, 78] rfl h
theorem vMo_laysClasses_33 {d : Nat} {M : xM} {Q : xQ} {a0 a1 a2 : Int} {w3 : xV}
    (h : (0 ≤ (z32 (a1 + 1)) ∧ (z32 (a1 + 1)) < 18) ∧ (((M (a0 + 15) (z32 (a1 + 1))) ≤ a2 → Ru (d + 1) kMo_laysClasses 22 [xO 9 a0, xI (z32 (a1 + (-1))), xI a2, w3] [] M Q) ∧ (¬ ((M (a0 + 15) (z32 (a1 + 1))) ≤ a2) → Ru d kMo_laysKinds 0 [xO 9 a0, xI a2, xU, xU, xU, xU, xU] [] M (fun r N => Ru (d + 1) kMo_laysClasses 50 [xO 9 a0, xI a1, xI a2, w3] [] N Q)))) :
    Ru (d + 1) kMo_laysClasses 33 [xO 9 a0, xI a1, xI a2, w3] [] M Q := sx_ok cMo_laysClasses 12 [22, 33, 50, 57, 78] rfl h
theorem vMo_laysClasses_50 {d : Nat} {M : xM} {Q : xQ} {a0 a1 a2 : Int} {w3 : xV}
    (h : (0 ≤ a1 ∧ a1 < 18) ∧ (Ru (d + 1) kMo_laysClasses 57 [xO 9 a0, xI a1, xI a2, xI (M (a0 + 15) a1)] [] M Q)) :
    Ru (d + 1) kMo_laysClasses 50 [xO 9 a0, xI a1, xI a2, w3] [] M Q := sx_ok cMo_laysClasses 6 [22, 33, 50, 57, 78] rfl h
theorem vMo_laysClasses_57 {d : Nat} {M : xM} {Q : xQ} {a0 a1 a2 a3 : Int}
    (h : (a2 ≤ a3 → (0 ≤ a2 ∧ a2 < 2000) ∧ (Ru (d + 1) kMo_laysClasses 33 [xO 9 a0, xI a1, xI (z32 (a2 + 1)), xI a3] [] (up M (a0 + 26) a2 a3) Q)) ∧ (¬ (a2 ≤ a3) → (0 ≤ a3 ∧ a3 < 2000) ∧ ((¬ (M (a0 + 26) a3) = a3 → Ru (d + 1) kMo_laysClasses 57 [xO 9 a0, xI a1, xI a2, xI (z32 (a3 + 1))] [] M Q) ∧ (¬ (¬ (M (a0 + 26) a3) = a3) → Ru d kMo_areLike 0 [xO 9 a0, xI a3, xI a2, xU] [] M (fun r N => Ru (d + 1) kMo_laysClasses 78 [xO 9 a0, xI a1, xI a2, xI a3] [r] N Q))))) :
    Ru (d + 1) kMo_laysClasses 57 [xO 9 a0, xI a1, xI a2, xI a3] [] M Q := sx_ok cMo_laysClasses 14 [22, 33, 50, 57, 78] rfl h
theorem vMo_laysClasses_78 {d : Nat} {M : xM} {Q : xQ} {a0 a1 a2 a3 s0 : Int}
    (h : (¬ s0 = 0 → (0 ≤ a2 ∧ a2 < 2000) ∧ (Ru (d + 1) kMo_laysClasses 33 [xO 9 a0, xI a1, xI (z32 (a2 + 1)), xI a3] [] (up M (a0 + 26) a2 a3) Q)) ∧ (¬ (¬ s0 = 0) → Ru (d + 1) kMo_laysClasses 57 [xO 9 a0, xI a1, xI a2, xI (z32 (a3 + 1))] [] M Q)) :
    Ru (d + 1) kMo_laysClasses 78 [xO 9 a0, xI a1, xI a2, xI a3] [xI s0] M Q := sx_ok cMo_laysClasses 9 [22, 33, 50, 57, 78] rfl h
theorem vMo_alike_0 {d : Nat} {M : xM} {Q : xQ} {a0 a1 a2 : Int}
    (h : Ru d kMo_isNode 0 [xO 9 a0, xI a1] [] M (fun r N => Ru (d + 1) kMo_alike 5 [xO 9 a0, xI a1, xI a2] [r] N Q)) :
    Ru (d + 1) kMo_alike 0 [xO 9 a0, xI a1, xI a2] [] M Q := sx_ok cMo_alike 4 [5, 13, 37] rfl h
theorem vMo_alike_5 {d : Nat} {M : xM} {Q : xQ} {a0 a1 a2 s0 : Int}
    (h : (s0 = 0 → Q (xI (-1)) M) ∧ (¬ (s0 = 0) → Ru d kMo_isNode 0 [xO 9 a0, xI a2] [] M (fun r N => Ru (d + 1) kMo_alike 13 [xO 9 a0, xI a1, xI a2] [r] N Q))) :
    Ru (d + 1) kMo_alike 5 [xO 9 a0, xI a1, xI a2] [xI s0] M Q := sx_ok cMo_alike 5 [5, 13, 37] rfl h
theorem vMo_alike_13 {d : Nat} {M : xM} {Q : xQ} {a0 a1 a2 s0 : Int}
    (h : (s0 = 0 → Q (xI (-1)) M) ∧ (¬ (s0 = 0) → (0 ≤ a1 ∧ a1 < 2000) ∧ ((0 ≤ a2 ∧ a2 < 2000) ∧ (((M (a0 + 13) a1) = (M (a0 + 13) a2) → Ru d kMo_laysClasses 0 [xO 9 a0, xU, xU, xU] [] M (fun r N => Ru (d + 1) kMo_alike 37 [xO 9 a0, xI a1, xI a2] [] N Q)) ∧ (¬ ((M (a0 + 13) a1) = (M (a0 + 13) a2)) → Q (xI (-1)) M))))) :
    Ru (d + 1) kMo_alike 13 [xO 9 a0, xI a1, xI a2] [xI s0] M Q := sx_ok cMo_alike 13 [5, 13, 37] rfl h
theorem vMo_alike_37 {d : Nat} {M : xM} {Q : xQ} {a0 a1 a2 : Int}
    (h : (0 ≤ a1 ∧ a1 < 2000) ∧ ((0 ≤ a2 ∧ a2 < 2000) ∧ ((¬ (M (a0 + 26) a1) = (M (a0 + 26) a2) → Q (xI 0) M) ∧ (¬ (¬ (M (a0 + 26) a1) = (M (a0 + 26) a2)) → Q (xI 1) M)))) :
    Ru (d + 1) kMo_alike 37 [xO 9 a0, xI a1, xI a2] [] M Q := sx_ok cMo_alike 13 [5, 13, 37] rfl h
theorem vMo_storedAt_0 {d : Nat} {M : xM} {Q : xQ} {a0 a1 : Int}
    (h : (0 ≤ a1 ∧ a1 < 18) ∧ (Ru (d + 1) kMo_storedAt 9 [xO 9 a0, xI a1, xI 0, xI (M (a0 + 15) a1)] [] M Q)) :
    Ru (d + 1) kMo_storedAt 0 [xO 9 a0, xI a1, xU, xU] [] M Q := sx_ok cMo_storedAt 8 [9, 33] rfl h
theorem vMo_storedAt_9 {d : Nat} {M : xM} {Q : xQ} {a0 a1 a2 a3 : Int}
    (h : (0 ≤ (z32 (a1 + 1)) ∧ (z32 (a1 + 1)) < 18) ∧ (((M (a0 + 15) (z32 (a1 + 1))) ≤ a3 → Q (xI a2) M) ∧ (¬ ((M (a0 + 15) (z32 (a1 + 1))) ≤ a3) → (0 ≤ a3 ∧ a3 < 2000) ∧ (Ru d kMo_reads 0 [xO 9 a0, xI 0, xI a1, xL (M (a0 + 14) a3), xU, xU, xU, xU, xU, xU, xU] [] M (fun r N => Ru (d + 1) kMo_storedAt 33 [xO 9 a0, xI a1, xI a2, xI a3] [] N Q))))) :
    Ru (d + 1) kMo_storedAt 9 [xO 9 a0, xI a1, xI a2, xI a3] [] M Q := sx_ok cMo_storedAt 17 [9, 33] rfl h
theorem vMo_storedAt_33 {d : Nat} {M : xM} {Q : xQ} {a0 a1 a2 a3 : Int}
    (h : Ru (d + 1) kMo_storedAt 9 [xO 9 a0, xI a1, xI (z32 (a2 + (M a0 22))), xI (z32 (a3 + 1))] [] M Q) :
    Ru (d + 1) kMo_storedAt 33 [xO 9 a0, xI a1, xI a2, xI a3] [] M Q := sx_ok cMo_storedAt 8 [9, 33] rfl h
theorem vMo_unlikeAt_0 {d : Nat} {M : xM} {Q : xQ} {a0 a1 : Int}
    (h : Ru d kMo_laysClasses 0 [xO 9 a0, xU, xU, xU] [] M (fun r N => Ru (d + 1) kMo_unlikeAt 4 [xO 9 a0, xI a1, xU, xU] [] N Q)) :
    Ru (d + 1) kMo_unlikeAt 0 [xO 9 a0, xI a1, xU, xU] [] M Q := sx_ok cMo_unlikeAt 3 [4, 13] rfl h
theorem vMo_unlikeAt_4 {d : Nat} {M : xM} {Q : xQ} {a0 a1 : Int}
    (h : (0 ≤ a1 ∧ a1 < 18) ∧ (Ru (d + 1) kMo_unlikeAt 13 [xO 9 a0, xI a1, xI 0, xI (M (a0 + 15) a1)] [] M Q)) :
    Ru (d + 1) kMo_unlikeAt 4 [xO 9 a0, xI a1, xU, xU] [] M Q := sx_ok cMo_unlikeAt 8 [4, 13] rfl h
theorem vMo_unlikeAt_13 {d : Nat} {M : xM} {Q : xQ} {a0 a1 a2 a3 : Int}
    (h : (0 ≤ (z32 (a1 + 1)) ∧ (z32 (a1 + 1)) < 18) ∧ (((M (a0 + 15) (z32 (a1 + 1))) ≤ a3 → Q (xI a2) M) ∧ (¬ ((M (a0 + 15) (z32 (a1 + 1))) ≤ a3) → (0 ≤ a3 ∧ a3 < 2000) ∧ ((¬ (M (a0 + 26) a3) = a3 → Ru (d + 1) kMo_unlikeAt 13 [xO 9 a0, xI a1, xI (z32 (a2 + 0)), xI (z32 (a3 + 1))] [] M Q) ∧ (¬ (¬ (M (a0 + 26) a3) = a3) → Ru (d + 1) kMo_unlikeAt 13 [xO 9 a0, xI a1, xI (z32 (a2 + 1)), xI (z32 (a3 + 1))] [] M Q))))) :
    Ru (d + 1) kMo_unlikeAt 13 [xO 9 a0, xI a1, xI a2, xI a3] [] M Q := sx_ok cMo_unlikeAt 22 [4, 13] rfl h
theorem vMo_level_0 {d : Nat} {M : xM} {Q : xQ} {a0 a1 a2 : Int}
    (h : (0 ≤ (0 : Int) ∧ (0 : Int) < 2) ∧ (Ru d kMo_isIn 0 [xL a1, xU, xL 0, xU, xL (z32 ((M (a0 + 8) 0) - 1)), xU] [] M (fun r N => Ru (d + 1) kMo_level 15 [xO 9 a0, xI a1, xI a2] [r] N Q))) :
    Ru (d + 1) kMo_level 0 [xO 9 a0, xI a1, xI a2] [] M Q := sx_ok cMo_level 12 [15, 84, 90] rfl h
theorem vMo_level_15 {d : Nat} {M : xM} {Q : xQ} {a0 a1 a2 s0 : Int}
    (h : (¬ s0 = 0 → (a2 = 0 → (0 ≤ (z32 (243 + a1)) ∧ (z32 (243 + a1)) < 259) ∧ (Q (xI (M (a0 + 1) (z32 (243 + a1)))) M)) ∧ (¬ a2 = 0 → (a2 = 1 → (0 ≤ (z32 (a1 + 1)) ∧ (z32 (a1 + 1)) < 18) ∧ ((0 ≤ a1 ∧ a1 < 18) ∧ (Q (xI (z32 ((M (a0 + 15) (z32 (a1 + 1))) - (M (a0 + 15) a1)))) M))) ∧ (¬ a2 = 1 → (a2 = 2 → Ru d kMo_storedAt 0 [xO 9 a0, xI a1, xU, xU] [] M (fun r N => Ru (d + 1) kMo_level 84 [xO 9 a0, xI a1, xI a2] [r] N Q)) ∧ (¬ a2 = 2 → (a2 = 3 → Ru d kMo_unlikeAt 0 [xO 9 a0, xI a1, xU, xU] [] M (fun r N => Ru (d + 1) kMo_level 90 [xO 9 a0, xI a1, xI a2] [r] N Q)) ∧ (¬ a2 = 3 → Q (xI (-1)) M))))) ∧ (¬ (¬ s0 = 0) → Q (xI (-1)) M)) :
    Ru (d + 1) kMo_level 15 [xO 9 a0, xI a1, xI a2] [xI s0] M Q := sx_ok cMo_level 16 [15, 84, 90] rfl h
theorem vMo_level_84 {d : Nat} {M : xM} {Q : xQ} {a0 a1 a2 s0 : Int}
    (h : Q (xI s0) M) :
    Ru (d + 1) kMo_level 84 [xO 9 a0, xI a1, xI a2] [xI s0] M Q := sx_ok cMo_level 2 [15, 84, 90] rfl h
theorem vMo_level_90 {d : Nat} {M : xM} {Q : xQ} {a0 a1 a2 s0 : Int}
    (h : Q (xI s0) M) :
    Ru (d + 1) kMo_level 90 [xO 9 a0, xI a1, xI a2] [xI s0] M Q := sx_ok cMo_level 2 [15, 84, 90] rfl h
theorem vMo_span_0 {d : Nat} {M : xM} {Q : xQ} {a0 a1 a2 : Int}
    (h : (0 ≤ (0 : Int) ∧ (0 : Int) < 2) ∧ (Ru d kMo_isIn 0 [xL a1, xU, xL 0, xU, xL (z32 ((M (a0 + 5) 0) - 1)), xU] [] M (fun r N => Ru (d + 1) kMo_span 15 [xO 9 a0, xI a1, xI a2] [r] N Q))) :
    Ru (d + 1) kMo_span 0 [xO 9 a0, xI a1, xI a2] [] M Q := sx_ok cMo_span 12 [15, 27, 58, 73] rfl h
theorem vMo_span_15 {d : Nat} {M : xM} {Q : xQ} {a0 a1 a2 s0 : Int}
    (h : (s0 = 0 → Q (xL (-2)) M) ∧ (¬ (s0 = 0) → Ru d kMo_isIn 0 [xL a2, xU, xL 0, xU, xL 2, xU] [] M (fun r N => Ru (d + 1) kMo_span 27 [xO 9 a0, xI a1, xI a2] [r] N Q))) :
    Ru (d + 1) kMo_span 15 [xO 9 a0, xI a1, xI a2] [xI s0] M Q := sx_ok cMo_span 7 [15, 27, 58, 73] rfl h
theorem vMo_span_27 {d : Nat} {M : xM} {Q : xQ} {a0 a1 a2 s0 : Int}
    (h : (¬ s0 = 0 → (¬ a2 = 0 → (¬ a2 = 1 → (0 ≤ a1 ∧ a1 < 248) ∧ (Ru d kMo_hopBy 0 [xO 9 a0, xI (M (a0 + 7) a1)] [] M (fun r N => Ru (d + 1) kMo_span 73 [xO 9 a0, xI a1, xI a2] [r] N Q))) ∧ (¬ (¬ a2 = 1) → Ru d kMo_behindRow 0 [xO 9 a0, xI 0, xI a1] [] M (fun r N => Ru (d + 1) kMo_span 58 [xO 9 a0, xI a1, xI a2] [r] N Q))) ∧ (¬ (¬ a2 = 0) → (0 ≤ a1 ∧ a1 < 248) ∧ (Q (xL (M (a0 + 6) a1)) M))) ∧ (¬ (¬ s0 = 0) → Q (xL (-2)) M)) :
    Ru (d + 1) kMo_span 27 [xO 9 a0, xI a1, xI a2] [xI s0] M Q := sx_ok cMo_span 13 [15, 27, 58, 73] rfl h
theorem vMo_span_58 {d : Nat} {M : xM} {Q : xQ} {a0 a1 a2 s0 : Int}
    (h : Q (xL (z64 (s0 - 1))) M) :
    Ru (d + 1) kMo_span 58 [xO 9 a0, xI a1, xI a2] [xL s0] M Q := sx_ok cMo_span 5 [15, 27, 58, 73] rfl h
theorem vMo_span_73 {d : Nat} {M : xM} {Q : xQ} {a0 a1 a2 s0 : Int}
    (h : Q (xL s0) M) :
    Ru (d + 1) kMo_span 73 [xO 9 a0, xI a1, xI a2] [xI s0] M Q := sx_ok cMo_span 3 [15, 27, 58, 73] rfl h
theorem vMo_steps_0 {d : Nat} {M : xM} {Q : xQ} {a0 : Int}
    (h : Ru (d + 1) kMo_steps 4 [xO 9 a0, xL 0, xU, xI 0] [] M Q) :
    Ru (d + 1) kMo_steps 0 [xO 9 a0, xU, xU, xU] [] M Q := sx_ok cMo_steps 5 [4, 24, 27] rfl h
theorem vMo_steps_4 {d : Nat} {M : xM} {Q : xQ} {a0 a1 a3 : Int}
    (h : ((M a0 15) ≤ a3 → dok (ddiv (l2d a1) 4751297606875873280) ∧ (dok (ddiv (l2d a1) 4751297606875873280) ∧ (Q (xL (d2l (ddiv (l2d a1) 4751297606875873280))) M))) ∧ (¬ ((M a0 15) ≤ a3) → (0 ≤ a3 ∧ a3 < 2000) ∧ (Ru d kMo_lengthAt 0 [xO 9 a0, xI 0, xI (M (a0 + 13) a3)] [] M (fun r N => Ru (d + 1) kMo_steps 24 [xO 9 a0, xL a1, xU, xI a3] [r, xL a1] N Q)))) :
    Ru (d + 1) kMo_steps 4 [xO 9 a0, xL a1, xU, xI a3] [] M Q := sx_ok cMo_steps 13 [4, 24, 27] rfl h
theorem vMo_steps_24 {d : Nat} {M : xM} {Q : xQ} {a0 a1 a3 s0 s1 : Int}
    (h : Ru d kMo_sizeOf 0 [xI s0] [] M (fun r N => Ru (d + 1) kMo_steps 27 [xO 9 a0, xL a1, xU, xI a3] [r, xL s1] N Q)) :
    Ru (d + 1) kMo_steps 24 [xO 9 a0, xL a1, xU, xI a3] [xI s0, xL s1] M Q := sx_ok cMo_steps 2 [4, 24, 27] rfl h
theorem vMo_steps_27 {d : Nat} {M : xM} {Q : xQ} {a0 a1 a3 s0 s1 : Int}
    (h : Ru (d + 1) kMo_steps 4 [xO 9 a0, xL (z64 (s1 + s0)), xU, xI (z32 (a3 + 1))] [] M Q) :
    Ru (d + 1) kMo_steps 27 [xO 9 a0, xL a1, xU, xI a3] [xL s0, xL s1] M Q := sx_ok cMo_steps 5 [4, 24, 27] rfl h
theorem vMo_ownSet_0 {d : Nat} {M : xM} {Q : xQ} {a0 a1 : Int}
    (h : Ru d kMo_hopAt 0 [xO 9 a0, xL a1, xU, xU] [] M (fun r N => Ru (d + 1) kMo_ownSet 6 [xO 9 a0, xL a1, xU] [r, xL 1] N Q)) :
    Ru (d + 1) kMo_ownSet 0 [xO 9 a0, xL a1, xU] [] M Q := sx_ok cMo_ownSet 5 [6] rfl h
theorem vMo_ownSet_6 {d : Nat} {M : xM} {Q : xQ} {a0 a1 s0 s1 : Int}
    (h : Q (xL (lshl s1 (z32 (s0 + 1)))) M) :
    Ru (d + 1) kMo_ownSet 6 [xO 9 a0, xL a1, xU] [xI s0, xL s1] M Q := sx_ok cMo_ownSet 5 [6] rfl h
theorem vMo_setOf_0 {d : Nat} {M : xM} {Q : xQ} {a0 a1 a3 : Int}
    (h : Ru d kMo_sizeOf 0 [xI a3] [] M (fun r N => Ru (d + 1) kMo_setOf 7 [xO 9 a0, xL a1, xU, xI a3, xU, xU, xU, xU] [r, xL a1, xI 0, xO 9 a0] N Q)) :
    Ru (d + 1) kMo_setOf 0 [xO 9 a0, xL a1, xU, xI a3, xU, xU, xU, xU] [] M Q := sx_ok cMo_setOf 6 [7, 10, 18, 27, 37, 44] rfl h
theorem vMo_setOf_7 {d : Nat} {M : xM} {Q : xQ} {a0 a1 a3 s0 s1 s2 s3 : Int}
    (h : Ru d kMo_isOne 0 [xO 9 s3, xI s2, xL s1, xU, xL s0, xU] [] M (fun r N => Ru (d + 1) kMo_setOf 10 [xO 9 a0, xL a1, xU, xI a3, xU, xU, xU, xU] [r] N Q)) :
    Ru (d + 1) kMo_setOf 7 [xO 9 a0, xL a1, xU, xI a3, xU, xU, xU, xU] [xL s0, xL s1, xI s2, xO 9 s3] M Q := sx_ok cMo_setOf 2 [7, 10, 18, 27, 37, 44] rfl h
theorem vMo_setOf_10 {d : Nat} {M : xM} {Q : xQ} {a0 a1 a3 s0 : Int}
    (h : (s0 = 0 → Ru d kMo_setOf 0 [xO 9 a0, xL a1, xU, xI (z32 (a3 + 1)), xU, xU, xU, xU] [] M (fun r N => Ru (d + 1) kMo_setOf 27 [xO 9 a0, xL a1, xU, xI a3, xU, xU, xU, xU] [r] N Q)) ∧ (¬ (s0 = 0) → Ru d kMo_ownSet 0 [xO 9 a0, xL a1, xU] [] M (fun r N => Ru (d + 1) kMo_setOf 18 [xO 9 a0, xL a1, xU, xI a3, xU, xU, xU, xU] [r] N Q))) :
    Ru (d + 1) kMo_setOf 10 [xO 9 a0, xL a1, xU, xI a3, xU, xU, xU, xU] [xI s0] M Q := sx_ok cMo_setOf 8 [7, 10, 18, 27, 37, 44] rfl h
theorem vMo_setOf_18 {d : Nat} {M : xM} {Q : xQ} {a0 a1 a3 s0 : Int}
    (h : Q (xL s0) M) :
    Ru (d + 1) kMo_setOf 18 [xO 9 a0, xL a1, xU, xI a3, xU, xU, xU, xU] [xL s0] M Q := sx_ok cMo_setOf 2 [7, 10, 18, 27, 37, 44] rfl h
theorem vMo_setOf_27 {d : Nat} {M : xM} {Q : xQ} {a0 a1 a3 s0 : Int}
    (h : Ru d kMo_sizeOf 0 [xI (z32 (a3 + 1))] [] M (fun r N => Ru (d + 1) kMo_setOf 37 [xO 9 a0, xL a1, xU, xI a3, xL s0, xU, xU, xU] [r, xL a1, xO 9 a0] N Q)) :
    Ru (d + 1) kMo_setOf 27 [xO 9 a0, xL a1, xU, xI a3, xU, xU, xU, xU] [xL s0] M Q := sx_ok cMo_setOf 8 [7, 10, 18, 27, 37, 44] rfl h
theorem vMo_setOf_37 {d : Nat} {M : xM} {Q : xQ} {a0 a1 a3 a4 s0 s1 s2 : Int}
    (h : Ru d kMo_setOf 0 [xO 9 s2, xL (z64 (s1 + s0)), xU, xI (z32 (a3 + 1)), xU, xU, xU, xU] [] M (fun r N => Ru (d + 1) kMo_setOf 44 [xO 9 a0, xL a1, xU, xI a3, xL a4, xU, xU, xU] [r] N Q)) :
    Ru (d + 1) kMo_setOf 37 [xO 9 a0, xL a1, xU, xI a3, xL a4, xU, xU, xU] [xL s0, xL s1, xO 9 s2] M Q := sx_ok cMo_setOf 6 [7, 10, 18, 27, 37, 44] rfl h
theorem vMo_setOf_44 {d : Nat} {M : xM} {Q : xQ} {a0 a1 a3 a4 s0 : Int}
    (h : ((land a4 s0) = 0 → Q (xL (lor a4 s0)) M) ∧ (¬ ((land a4 s0) = 0) → Q (xL (land a4 s0)) M)) :
    Ru (d + 1) kMo_setOf 44 [xO 9 a0, xL a1, xU, xI a3, xL a4, xU, xU, xU] [xL s0] M Q := sx_ok cMo_setOf 12 [7, 10, 18, 27, 37, 44] rfl h
theorem vMo_leastOf_0 {d : Nat} {M : xM} {Q : xQ} {a0 : Int}
    (h : Ru d kMo_leastOf 2 [xL a0, xU, xI 0] [] M Q) :
    Ru d kMo_leastOf 0 [xL a0, xU, xU] [] M Q := sx_ok cMo_leastOf 3 [2] rfl h
theorem vMo_leastOf_2 {d : Nat} {M : xM} {Q : xQ} {a0 a2 : Int}
    (h : (¬ (land (lshr a0 a2) 1) = 0 → Q (xI (z32 (a2 - 1))) M) ∧ (¬ (¬ (land (lshr a0 a2) 1) = 0) → Ru d kMo_leastOf 2 [xL a0, xU, xI (z32 (a2 + 1))] [] M Q)) :
    Ru d kMo_leastOf 2 [xL a0, xU, xI a2] [] M Q := sx_ok cMo_leastOf 12 [2] rfl h
theorem vMo_hands_0 {d : Nat} {M : xM} {Q : xQ} {a0 a1 a3 a4 : Int}
    (h : Ru d kMo_setOf 0 [xO 9 a0, xL a1, xU, xI a3, xU, xU, xU, xU] [] M (fun r N => Ru (d + 1) kMo_hands 6 [xO 9 a0, xL a1, xU, xI a3, xI a4, xU, xU, xU] [r] N Q)) :
    Ru (d + 1) kMo_hands 0 [xO 9 a0, xL a1, xU, xI a3, xI a4, xU, xU, xU] [] M Q := sx_ok cMo_hands 5 [6, 31, 74, 81, 84, 98, 106, 115] rfl h
theorem vMo_hands_6 {d : Nat} {M : xM} {Q : xQ} {a0 a1 a3 a4 s0 : Int}
    (h : (¬ (land (lshr s0 (z32 (a4 + 1))) 1) = 0 → Ru (d + 1) kMo_hands 74 [xO 9 a0, xL a1, xU, xI a3, xI a4, xL s0, xU, xI a4] [] M Q) ∧ (¬ (¬ (land (lshr s0 (z32 (a4 + 1))) 1) = 0) → Ru d kMo_leastOf 0 [xL s0, xU, xU] [] M (fun r N => Ru (d + 1) kMo_hands 31 [xO 9 a0, xL a1, xU, xI a3, xI a4, xL s0, xU, xI a4] [r] N Q))) :
    Ru (d + 1) kMo_hands 6 [xO 9 a0, xL a1, xU, xI a3, xI a4, xU, xU, xU] [xL s0] M Q := sx_ok cMo_hands 15 [6, 31, 74, 81, 84, 98, 106, 115] rfl h
theorem vMo_hands_31 {d : Nat} {M : xM} {Q : xQ} {a0 a1 a3 a4 a5 a7 s0 : Int}
    (h : (0 ≤ (M a0 46) ∧ (M a0 46) < 128) ∧ ((0 ≤ ((up M (a0 + 28) (M a0 46) a1) a0 46) ∧ ((up M (a0 + 28) (M a0 46) a1) a0 46) < 128) ∧ ((0 ≤ ((up (up M (a0 + 28) (M a0 46) a1) (a0 + 29) ((up M (a0 + 28) (M a0 46) a1) a0 46) a3) a0 46) ∧ ((up (up M (a0 + 28) (M a0 46) a1) (a0 + 29) ((up M (a0 + 28) (M a0 46) a1) a0 46) a3) a0 46) < 128) ∧ (Ru (d + 1) kMo_hands 74 [xO 9 a0, xL a1, xU, xI a3, xI a4, xL a5, xU, xI s0] [] (up (up (up (up M (a0 + 28) (M a0 46) a1) (a0 + 29) ((up M (a0 + 28) (M a0 46) a1) a0 46) a3) (a0 + 30) ((up (up M (a0 + 28) (M a0 46) a1) (a0 + 29) ((up M (a0 + 28) (M a0 46) a1) a0 46) a3) a0 46) s0) a0 46 (z32 (((up (up (up M (a0 + 28) (M a0 46) a1) (a0 + 29) ((up M (a0 + 28) (M a0 46) a1) a0 46) a3) (a0 + 30) ((up (up M (a0 + 28) (M a0 46) a1) (a0 + 29) ((up M (a0 + 28) (M a0 46) a1) a0 46) a3) a0 46) s0) a0 46) + 1))) Q)))) :
    Ru (d + 1) kMo_hands 31 [xO 9 a0, xL a1, xU, xI a3, xI a4, xL a5, xU, xI a7] [xI s0] M Q := sx_ok cMo_hands 26 [6, 31, 74, 81, 84, 98, 106, 115] rfl h
theorem vMo_hands_74 {d : Nat} {M : xM} {Q : xQ} {a0 a1 a3 a4 a5 a7 : Int}
    (h : Ru d kMo_sizeOf 0 [xI a3] [] M (fun r N => Ru (d + 1) kMo_hands 81 [xO 9 a0, xL a1, xU, xI a3, xI a4, xL a5, xU, xI a7] [r, xL a1, xI 0, xO 9 a0] N Q)) :
    Ru (d + 1) kMo_hands 74 [xO 9 a0, xL a1, xU, xI a3, xI a4, xL a5, xU, xI a7] [] M Q := sx_ok cMo_hands 6 [6, 31, 74, 81, 84, 98, 106, 115] rfl h
theorem vMo_hands_81 {d : Nat} {M : xM} {Q : xQ} {a0 a1 a3 a4 a5 a7 s0 s1 s2 s3 : Int}
    (h : Ru d kMo_isOne 0 [xO 9 s3, xI s2, xL s1, xU, xL s0, xU] [] M (fun r N => Ru (d + 1) kMo_hands 84 [xO 9 a0, xL a1, xU, xI a3, xI a4, xL a5, xU, xI a7] [r] N Q)) :
    Ru (d + 1) kMo_hands 81 [xO 9 a0, xL a1, xU, xI a3, xI a4, xL a5, xU, xI a7] [xL s0, xL s1, xI s2, xO 9 s3] M Q := sx_ok cMo_hands 2 [6, 31, 74, 81, 84, 98, 106, 115] rfl h
theorem vMo_hands_84 {d : Nat} {M : xM} {Q : xQ} {a0 a1 a3 a4 a5 a7 s0 : Int}
    (h : (s0 = 0 → Ru d kMo_hands 0 [xO 9 a0, xL a1, xU, xI (z32 (a3 + 1)), xI a7, xU, xU, xU] [] M (fun r N => Ru (d + 1) kMo_hands 98 [xO 9 a0, xL a1, xU, xI a3, xI a4, xL a5, xU, xI a7] [] N Q)) ∧ (¬ (s0 = 0) → Q xU M)) :
    Ru (d + 1) kMo_hands 84 [xO 9 a0, xL a1, xU, xI a3, xI a4, xL a5, xU, xI a7] [xI s0] M Q := sx_ok cMo_hands 9 [6, 31, 74, 81, 84, 98, 106, 115] rfl h
theorem vMo_hands_98 {d : Nat} {M : xM} {Q : xQ} {a0 a1 a3 a4 a5 a7 : Int}
    (h : Ru d kMo_sizeOf 0 [xI (z32 (a3 + 1))] [] M (fun r N => Ru (d + 1) kMo_hands 106 [xO 9 a0, xL a1, xU, xI a3, xI a4, xL a5, xU, xI a7] [r, xL a1, xO 9 a0] N Q)) :
    Ru (d + 1) kMo_hands 98 [xO 9 a0, xL a1, xU, xI a3, xI a4, xL a5, xU, xI a7] [] M Q := sx_ok cMo_hands 7 [6, 31, 74, 81, 84, 98, 106, 115] rfl h
theorem vMo_hands_106 {d : Nat} {M : xM} {Q : xQ} {a0 a1 a3 a4 a5 a7 s0 s1 s2 : Int}
    (h : Ru d kMo_hands 0 [xO 9 s2, xL (z64 (s1 + s0)), xU, xI (z32 (a3 + 1)), xI a7, xU, xU, xU] [] M (fun r N => Ru (d + 1) kMo_hands 115 [xO 9 a0, xL a1, xU, xI a3, xI a4, xL a5, xU, xI a7] [] N Q)) :
    Ru (d + 1) kMo_hands 106 [xO 9 a0, xL a1, xU, xI a3, xI a4, xL a5, xU, xI a7] [xL s0, xL s1, xO 9 s2] M Q := sx_ok cMo_hands 7 [6, 31, 74, 81, 84, 98, 106, 115] rfl h
theorem vMo_hands_115 {d : Nat} {M : xM} {Q : xQ} {a0 a1 a3 a4 a5 a7 : Int}
    (h : Q xU M) :
    Ru (d + 1) kMo_hands 115 [xO 9 a0, xL a1, xU, xI a3, xI a4, xL a5, xU, xI a7] [] M Q := sx_ok cMo_hands 2 [6, 31, 74, 81, 84, 98, 106, 115] rfl h
theorem vMo_laysFewest_0 {d : Nat} {M : xM} {Q : xQ} {a0 : Int}
    (h : Ru d kMo_hands 0 [xO 9 a0, xL 0, xU, xI 0, xI (-1), xU, xU, xU] [] (up M a0 46 0) (fun r N => Ru (d + 1) kMo_laysFewest 12 [xO 9 a0] [] N Q)) :
    Ru (d + 1) kMo_laysFewest 0 [xO 9 a0] [] M Q := sx_ok cMo_laysFewest 9 [12] rfl h
theorem vMo_laysFewest_12 {d : Nat} {M : xM} {Q : xQ} {a0 : Int}
    (h : Q xU M) :
    Ru (d + 1) kMo_laysFewest 12 [xO 9 a0] [] M Q := sx_ok cMo_laysFewest 2 [12] rfl h
theorem vMo_fewest_0 {d : Nat} {M : xM} {Q : xQ} {a0 a1 a2 : Int}
    (h : Ru d kMo_isIn 0 [xL a2, xU, xL 0, xU, xL 2, xU] [] M (fun r N => Ru (d + 1) kMo_fewest 9 [xO 9 a0, xI a1, xI a2] [r] N Q)) :
    Ru (d + 1) kMo_fewest 0 [xO 9 a0, xI a1, xI a2] [] M Q := sx_ok cMo_fewest 6 [9, 20, 54] rfl h
theorem vMo_fewest_9 {d : Nat} {M : xM} {Q : xQ} {a0 a1 a2 s0 : Int}
    (h : (¬ s0 = 0 → Ru d kMo_laysFewest 0 [xO 9 a0] [] M (fun r N => Ru (d + 1) kMo_fewest 20 [xO 9 a0, xI a1, xI a2] [] N Q)) ∧ (¬ (¬ s0 = 0) → Q (xL (-2)) M)) :
    Ru (d + 1) kMo_fewest 9 [xO 9 a0, xI a1, xI a2] [xI s0] M Q := sx_ok cMo_fewest 4 [9, 20, 54] rfl h
theorem vMo_fewest_20 {d : Nat} {M : xM} {Q : xQ} {a0 a1 a2 : Int}
    (h : (¬ a1 = (-1) → Ru d kMo_isIn 0 [xL a1, xU, xL 0, xU, xL (z32 ((M a0 46) - 1)), xU] [] M (fun r N => Ru (d + 1) kMo_fewest 54 [xO 9 a0, xI a1, xI a2] [r] N Q)) ∧ (¬ (¬ a1 = (-1)) → (¬ a2 = 0 → Q (xL (-2)) M) ∧ (¬ (¬ a2 = 0) → Q (xL (M a0 46)) M))) :
    Ru (d + 1) kMo_fewest 20 [xO 9 a0, xI a1, xI a2] [] M Q := sx_ok cMo_fewest 13 [9, 20, 54] rfl h
theorem vMo_fewest_54 {d : Nat} {M : xM} {Q : xQ} {a0 a1 a2 s0 : Int}
    (h : (¬ s0 = 0 → (¬ a2 = 0 → (¬ a2 = 1 → (0 ≤ a1 ∧ a1 < 128) ∧ (Q (xL (M (a0 + 30) a1)) M)) ∧ (¬ (¬ a2 = 1) → (0 ≤ a1 ∧ a1 < 128) ∧ (Q (xL (M (a0 + 28) a1)) M))) ∧ (¬ (¬ a2 = 0) → (0 ≤ a1 ∧ a1 < 128) ∧ (Q (xL (M (a0 + 29) a1)) M))) ∧ (¬ (¬ s0 = 0) → Q (xL (-2)) M)) :
    Ru (d + 1) kMo_fewest 54 [xO 9 a0, xI a1, xI a2] [xI s0] M Q := sx_ok cMo_fewest 13 [9, 20, 54] rfl h
theorem vMo_areFewest_0 {d : Nat} {M : xM} {Q : xQ} {a0 : Int}
    (h : (0 ≤ (0 : Int) ∧ (0 : Int) < 259) ∧ ((¬ (M a0 46) = (M (a0 + 1) 0) → Ru (d + 1) kMo_areFewest 21 [xO 9 a0, xI 0, xI 0] [] M Q) ∧ (¬ (¬ (M a0 46) = (M (a0 + 1) 0)) → Ru (d + 1) kMo_areFewest 21 [xO 9 a0, xI 1, xI 0] [] M Q))) :
    Ru (d + 1) kMo_areFewest 0 [xO 9 a0, xU, xU] [] M Q := sx_ok cMo_areFewest 13 [21, 44] rfl h
theorem vMo_areFewest_21 {d : Nat} {M : xM} {Q : xQ} {a0 a1 a2 : Int}
    (h : ((M a0 46) ≤ a2 → rb a1 (Q (xI a1) M)) ∧ (¬ ((M a0 46) ≤ a2) → (a1 = 0 → rb a1 (Q (xI a1) M)) ∧ (¬ (a1 = 0) → (0 ≤ a2 ∧ a2 < 128) ∧ (Ru d kMo_valueOf 0 [xO 9 a0, xI a2] [] M (fun r N => Ru (d + 1) kMo_areFewest 44 [xO 9 a0, xI a1, xI a2] [r, xL (M (a0 + 28) a2)] N Q))))) :
    Ru (d + 1) kMo_areFewest 21 [xO 9 a0, xI a1, xI a2] [] M Q := sx_ok cMo_areFewest 14 [21, 44] rfl h
theorem vMo_areFewest_44 {d : Nat} {M : xM} {Q : xQ} {a0 a1 a2 s0 s1 : Int}
    (h : (¬ s1 = s0 → Ru (d + 1) kMo_areFewest 21 [xO 9 a0, xI 0, xI (z32 (a2 + 1))] [] M Q) ∧ (¬ (¬ s1 = s0) → (0 ≤ a2 ∧ a2 < 128) ∧ ((0 ≤ (z32 (62 + a2)) ∧ (z32 (62 + a2)) < 259) ∧ ((¬ (M (a0 + 29) a2) = (M (a0 + 1) (z32 (62 + a2))) → Ru (d + 1) kMo_areFewest 21 [xO 9 a0, xI 0, xI (z32 (a2 + 1))] [] M Q) ∧ (¬ (¬ (M (a0 + 29) a2) = (M (a0 + 1) (z32 (62 + a2)))) → (0 ≤ a2 ∧ a2 < 128) ∧ ((0 ≤ (z32 (122 + a2)) ∧ (z32 (122 + a2)) < 259) ∧ ((¬ (M (a0 + 30) a2) = (M (a0 + 1) (z32 (122 + a2))) → Ru (d + 1) kMo_areFewest 21 [xO 9 a0, xI 0, xI (z32 (a2 + 1))] [] M Q) ∧ (¬ (¬ (M (a0 + 30) a2) = (M (a0 + 1) (z32 (122 + a2)))) → Ru (d + 1) kMo_areFewest 21 [xO 9 a0, xI 1, xI (z32 (a2 + 1))] [] M Q)))))))) :
    Ru (d + 1) kMo_areFewest 44 [xO 9 a0, xI a1, xI a2] [xL s0, xL s1] M Q := sx_ok cMo_areFewest 29 [21, 44] rfl h
theorem vMo_gather_0 {d : Nat} {M : xM} {Q : xQ} {a0 : Int}
    (h : Ru d kMo_laysFewest 0 [xO 9 a0] [] M (fun r N => Ru (d + 1) kMo_gather 4 [xO 9 a0, xU] [] N Q)) :
    Ru (d + 1) kMo_gather 0 [xO 9 a0, xU] [] M Q := sx_ok cMo_gather 3 [4, 6, 37, 47, 59, 120, 131, 141] rfl h
theorem vMo_gather_4 {d : Nat} {M : xM} {Q : xQ} {a0 : Int}
    (h : Ru (d + 1) kMo_gather 6 [xO 9 a0, xI 0] [] M Q) :
    Ru (d + 1) kMo_gather 4 [xO 9 a0, xU] [] M Q := sx_ok cMo_gather 3 [4, 6, 37, 47, 59, 120, 131, 141] rfl h
theorem vMo_gather_6 {d : Nat} {M : xM} {Q : xQ} {a0 a1 : Int}
    (h : ((M a0 46) ≤ a1 → Ru d kMo_areFewest 0 [xO 9 a0, xU, xU] [] M (fun r N => Ru (d + 1) kMo_gather 37 [xO 9 a0, xI a1] [r] N Q)) ∧ (¬ ((M a0 46) ≤ a1) → (0 ≤ a1 ∧ a1 < 128) ∧ ((¬ (M (a0 + 30) a1) = (-1) → Ru (d + 1) kMo_gather 6 [xO 9 a0, xI (z32 (a1 + 1))] [] M Q) ∧ (¬ (¬ (M (a0 + 30) a1) = (-1)) → Q (xI (-2)) M)))) :
    Ru (d + 1) kMo_gather 6 [xO 9 a0, xI a1] [] M Q := sx_ok cMo_gather 13 [4, 6, 37, 47, 59, 120, 131, 141] rfl h
theorem vMo_gather_37 {d : Nat} {M : xM} {Q : xQ} {a0 a1 s0 : Int}
    (h : (s0 = 0 → Ru d kMo_keepsAct 0 [xO 9 a0, xU] [] M (fun r N => Ru (d + 1) kMo_gather 47 [xO 9 a0, xI a1] [] N Q)) ∧ (¬ (s0 = 0) → Q (xI (-3)) M)) :
    Ru (d + 1) kMo_gather 37 [xO 9 a0, xI a1] [xI s0] M Q := sx_ok cMo_gather 4 [4, 6, 37, 47, 59, 120, 131, 141] rfl h
theorem vMo_gather_47 {d : Nat} {M : xM} {Q : xQ} {a0 a1 : Int}
    (h : (0 ≤ (0 : Int) ∧ (0 : Int) < 259) ∧ (Ru (d + 1) kMo_gather 59 [xO 9 a0, xI 0] [] (up M (a0 + 1) 0 (M a0 46)) Q)) :
    Ru (d + 1) kMo_gather 47 [xO 9 a0, xI a1] [] M Q := sx_ok cMo_gather 9 [4, 6, 37, 47, 59, 120, 131, 141] rfl h
theorem vMo_gather_59 {d : Nat} {M : xM} {Q : xQ} {a0 a1 : Int}
    (h : ((M a0 46) ≤ a1 → Ru (d + 1) kMo_gather 120 [xO 9 a0, xI 0] [] M Q) ∧ (¬ ((M a0 46) ≤ a1) → (0 ≤ a1 ∧ a1 < 128) ∧ ((0 ≤ (z32 (2 + a1)) ∧ (z32 (2 + a1)) < 259) ∧ ((0 ≤ a1 ∧ a1 < 128) ∧ ((0 ≤ (z32 (62 + a1)) ∧ (z32 (62 + a1)) < 259) ∧ ((0 ≤ a1 ∧ a1 < 128) ∧ ((0 ≤ (z32 (122 + a1)) ∧ (z32 (122 + a1)) < 259) ∧ (Ru (d + 1) kMo_gather 59 [xO 9 a0, xI (z32 (a1 + 1))] [] (up (up (up M (a0 + 1) (z32 (2 + a1)) (z32 (M (a0 + 28) a1))) (a0 + 1) (z32 (62 + a1)) ((up M (a0 + 1) (z32 (2 + a1)) (z32 (M (a0 + 28) a1))) (a0 + 29) a1)) (a0 + 1) (z32 (122 + a1)) ((up (up M (a0 + 1) (z32 (2 + a1)) (z32 (M (a0 + 28) a1))) (a0 + 1) (z32 (62 + a1)) ((up M (a0 + 1) (z32 (2 + a1)) (z32 (M (a0 + 28) a1))) (a0 + 29) a1)) (a0 + 30) a1)) Q)))))))) :
    Ru (d + 1) kMo_gather 59 [xO 9 a0, xI a1] [] M Q := sx_ok cMo_gather 38 [4, 6, 37, 47, 59, 120, 131, 141] rfl h
theorem vMo_gather_120 {d : Nat} {M : xM} {Q : xQ} {a0 a1 : Int}
    (h : (60 < a1 → Ru d kMo_isDone 0 [xO 9 a0] [] M (fun r N => Ru (d + 1) kMo_gather 141 [xO 9 a0, xI a1] [] N Q)) ∧ (¬ (60 < a1) → Ru d kMo_frees 0 [xO 9 a0, xI a1] [] M (fun r N => Ru (d + 1) kMo_gather 131 [xO 9 a0, xI a1] [] N Q))) :
    Ru (d + 1) kMo_gather 120 [xO 9 a0, xI a1] [] M Q := sx_ok cMo_gather 7 [4, 6, 37, 47, 59, 120, 131, 141] rfl h
theorem vMo_gather_131 {d : Nat} {M : xM} {Q : xQ} {a0 a1 : Int}
    (h : Ru (d + 1) kMo_gather 120 [xO 9 a0, xI (z32 (a1 + 1))] [] M Q) :
    Ru (d + 1) kMo_gather 131 [xO 9 a0, xI a1] [] M Q := sx_ok cMo_gather 3 [4, 6, 37, 47, 59, 120, 131, 141] rfl h
theorem vMo_gather_141 {d : Nat} {M : xM} {Q : xQ} {a0 a1 : Int}
    (h : (0 ≤ (0 : Int) ∧ (0 : Int) < 259) ∧ (Q (xI (M (a0 + 1) 0)) M)) :
    Ru (d + 1) kMo_gather 141 [xO 9 a0, xI a1] [] M Q := sx_ok cMo_gather 6 [4, 6, 37, 47, 59, 120, 131, 141] rfl h
theorem vMo_ownAt_0 {d : Nat} {M : xM} {Q : xQ} {a0 a1 a2 a3 : Int}
    (h : Ru (d + 1) kMo_ownAt 6 [xO 9 a0, xI a1, xI a2, xI a3, xI 0, xI 0, xU] [] M Q) :
    Ru (d + 1) kMo_ownAt 0 [xO 9 a0, xI a1, xI a2, xI a3, xU, xU, xU] [] M Q := sx_ok cMo_ownAt 5 [6, 47, 53] rfl h
theorem vMo_ownAt_6 {d : Nat} {M : xM} {Q : xQ} {a0 a1 a2 a3 a4 a5 : Int} {w6 : xV}
    (h : (0 ≤ (0 : Int) ∧ (0 : Int) < 2) ∧ (((M (a0 + 5) 0) ≤ a5 → Q (xL (z32 ((-3) - a4))) M) ∧ (¬ ((M (a0 + 5) 0) ≤ a5) → (0 ≤ a5 ∧ a5 < 248) ∧ (((M (a0 + 7) a5) = a1 → (0 ≤ a5 ∧ a5 < 248) ∧ (Ru d kMo_behindRow 0 [xO 9 a0, xI 0, xI a5] [] M (fun r N => Ru (d + 1) kMo_ownAt 47 [xO 9 a0, xI a1, xI a2, xI a3, xI a4, xI a5, w6] [r, xI (z32 (M (a0 + 6) a5)), xO 9 a0] N Q))) ∧ (¬ ((M (a0 + 7) a5) = a1) → Ru (d + 1) kMo_ownAt 6 [xO 9 a0, xI a1, xI a2, xI a3, xI a4, xI (z32 (a5 + 1)), w6] [] M Q))))) :
    Ru (d + 1) kMo_ownAt 6 [xO 9 a0, xI a1, xI a2, xI a3, xI a4, xI a5, w6] [] M Q := sx_ok cMo_ownAt 23 [6, 47, 53] rfl h
theorem vMo_ownAt_47 {d : Nat} {M : xM} {Q : xQ} {a0 a1 a2 a3 a4 a5 s0 s1 s2 : Int} {w6 : xV}
    (h : Ru d kMo_covers 0 [xO 9 s2, xI s1, xI (z32 (z64 (s0 - 1))), xU, xU, xU, xU, xU] [] M (fun r N => Ru (d + 1) kMo_ownAt 53 [xO 9 a0, xI a1, xI a2, xI a3, xI a4, xI a5, w6] [r] N Q)) :
    Ru (d + 1) kMo_ownAt 47 [xO 9 a0, xI a1, xI a2, xI a3, xI a4, xI a5, w6] [xL s0, xI s1, xO 9 s2] M Q := sx_ok cMo_ownAt 5 [6, 47, 53] rfl h
theorem vMo_ownAt_53 {d : Nat} {M : xM} {Q : xQ} {a0 a1 a2 a3 a4 a5 s0 : Int} {w6 : xV}
    (h : (a2 < a4 → Ru (d + 1) kMo_ownAt 6 [xO 9 a0, xI a1, xI a2, xI a3, xI (z32 (a4 + (M a0 29))), xI (z32 (a5 + 1)), xI s0] [] M Q) ∧ (¬ (a2 < a4) → ((z32 (a4 + (M a0 29))) ≤ a2 → Ru (d + 1) kMo_ownAt 6 [xO 9 a0, xI a1, xI a2, xI a3, xI (z32 (a4 + (M a0 29))), xI (z32 (a5 + 1)), xI s0] [] M Q) ∧ (¬ ((z32 (a4 + (M a0 29))) ≤ a2) → (¬ a3 = 0 → (0 ≤ (z32 (a2 - a4)) ∧ (z32 (a2 - a4)) < 64) ∧ (Q (xL (M (a0 + 19) (z32 (a2 - a4)))) M)) ∧ (¬ (¬ a3 = 0) → (0 ≤ (z32 (a2 - a4)) ∧ (z32 (a2 - a4)) < 64) ∧ (Q (xL (M (a0 + 20) (z32 (a2 - a4)))) M))))) :
    Ru (d + 1) kMo_ownAt 53 [xO 9 a0, xI a1, xI a2, xI a3, xI a4, xI a5, w6] [xI s0] M Q := sx_ok cMo_ownAt 22 [6, 47, 53] rfl h
theorem vMo_own_0 {d : Nat} {M : xM} {Q : xQ} {a0 a1 a2 a3 : Int}
    (h : (a1 = (-1) → Ru (d + 1) kMo_own 13 [xO 9 a0, xI a1, xI a2, xI a3, xU, xU] [] M Q) ∧ (¬ (a1 = (-1)) → Ru d kMo_isHop 0 [xO 9 a0, xI a1] [] M (fun r N => Ru (d + 1) kMo_own 10 [xO 9 a0, xI a1, xI a2, xI a3, xU, xU] [r] N Q))) :
    Ru (d + 1) kMo_own 0 [xO 9 a0, xI a1, xI a2, xI a3, xU, xU] [] M Q := sx_ok cMo_own 7 [10, 13, 25, 57] rfl h
theorem vMo_own_10 {d : Nat} {M : xM} {Q : xQ} {a0 a1 a2 a3 s0 : Int}
    (h : (s0 = 0 → Q (xL (-2)) M) ∧ (¬ (s0 = 0) → Ru (d + 1) kMo_own 13 [xO 9 a0, xI a1, xI a2, xI a3, xU, xU] [] M Q)) :
    Ru (d + 1) kMo_own 10 [xO 9 a0, xI a1, xI a2, xI a3, xU, xU] [xI s0] M Q := sx_ok cMo_own 4 [10, 13, 25, 57] rfl h
theorem vMo_own_13 {d : Nat} {M : xM} {Q : xQ} {a0 a1 a2 a3 : Int}
    (h : (a2 < (-1) → Q (xL (-2)) M) ∧ (¬ (a2 < (-1)) → Ru d kMo_isIn 0 [xL a3, xU, xL 0, xU, xL 1, xU] [] M (fun r N => Ru (d + 1) kMo_own 25 [xO 9 a0, xI a1, xI a2, xI a3, xU, xU] [r] N Q))) :
    Ru (d + 1) kMo_own 13 [xO 9 a0, xI a1, xI a2, xI a3, xU, xU] [] M Q := sx_ok cMo_own 9 [10, 13, 25, 57] rfl h
theorem vMo_own_25 {d : Nat} {M : xM} {Q : xQ} {a0 a1 a2 a3 s0 : Int}
    (h : (¬ s0 = 0 → (¬ a1 = (-1) → (0 ≤ (z32 (182 + a1)) ∧ (z32 (182 + a1)) < 259) ∧ (Ru d kMo_ownAt 0 [xO 9 a0, xI (M (a0 + 1) (z32 (182 + a1))), xI a2, xI a3, xU, xU, xU] [] M (fun r N => Ru (d + 1) kMo_own 57 [xO 9 a0, xI a1, xI a2, xI a3, xU, xU] [r] N Q))) ∧ (¬ (¬ a1 = (-1)) → Ru d kMo_ownAt 0 [xO 9 a0, xI (-1), xI a2, xI a3, xU, xU, xU] [] M (fun r N => Ru (d + 1) kMo_own 57 [xO 9 a0, xI a1, xI a2, xI a3, xU, xU] [r] N Q))) ∧ (¬ (¬ s0 = 0) → Q (xL (-2)) M)) :
    Ru (d + 1) kMo_own 25 [xO 9 a0, xI a1, xI a2, xI a3, xU, xU] [xI s0] M Q := sx_ok cMo_own 15 [10, 13, 25, 57] rfl h
theorem vMo_own_57 {d : Nat} {M : xM} {Q : xQ} {a0 a1 a2 a3 s0 : Int}
    (h : (¬ a2 = (-1) → (0 ≤ s0 → Q (xL s0) M) ∧ (¬ (0 ≤ s0) → Q (xL (-2)) M)) ∧ (¬ (¬ a2 = (-1)) → (¬ a3 = 0 → Q (xL (-2)) M) ∧ (¬ (¬ a3 = 0) → Q (xL (z64 ((-3) - s0))) M))) :
    Ru (d + 1) kMo_own 57 [xO 9 a0, xI a1, xI a2, xI a3, xU, xU] [xL s0] M Q := sx_ok cMo_own 12 [10, 13, 25, 57] rfl h
theorem vMo_nodesOf_0 {d : Nat} {M : xM} {Q : xQ} {a0 a1 : Int}
    (h : (¬ a1 = 0 → Ru d kMo_sizeOf 0 [xI a1] [] M (fun r N => Ru (d + 1) kMo_nodesOf 10 [xO 9 a0, xI a1, xU, xU, xU, xU, xU, xU, xU, xU] [r] N Q)) ∧ (¬ (¬ a1 = 0) → Q (xI 1) M)) :
    Ru (d + 1) kMo_nodesOf 0 [xO 9 a0, xI a1, xU, xU, xU, xU, xU, xU, xU, xU] [] M Q := sx_ok cMo_nodesOf 5 [10, 22] rfl h
theorem vMo_nodesOf_10 {d : Nat} {M : xM} {Q : xQ} {a0 a1 s0 : Int}
    (h : Ru (d + 1) kMo_nodesOf 22 [xO 9 a0, xI a1, xL s0, xU, xL (-1), xU, xI 0, xI 1, xU, xU] [] M Q) :
    Ru (d + 1) kMo_nodesOf 10 [xO 9 a0, xI a1, xU, xU, xU, xU, xU, xU, xU, xU] [xL s0] M Q := sx_ok cMo_nodesOf 8 [10, 22] rfl h
theorem vMo_nodesOf_22 {d : Nat} {M : xM} {Q : xQ} {a0 a1 a2 a4 a6 a7 : Int} {w8 : xV}
    (h : (0 ≤ (0 : Int) ∧ (0 : Int) < 2) ∧ (((M (a0 + 5) 0) ≤ a7 → Q (xI a6) M) ∧ (¬ ((M (a0 + 5) 0) ≤ a7) → (0 ≤ a7 ∧ a7 < 248) ∧ (¬ a2 = 0 ∧ (((lrem (M (a0 + 6) a7) a2) = 0 → Ru (d + 1) kMo_nodesOf 22 [xO 9 a0, xI a1, xL a2, xU, xL a4, xU, xI a6, xI (z32 (a7 + 1)), xL (lrem (M (a0 + 6) a7) a2), xU] [] M Q) ∧ (¬ ((lrem (M (a0 + 6) a7) a2) = 0) → (0 ≤ a7 ∧ a7 < 248) ∧ ((¬ (z64 ((M (a0 + 6) a7) - (lrem (M (a0 + 6) a7) a2))) = a4 → (0 ≤ a7 ∧ a7 < 248) ∧ (Ru (d + 1) kMo_nodesOf 22 [xO 9 a0, xI a1, xL a2, xU, xL (z64 ((M (a0 + 6) a7) - (lrem (M (a0 + 6) a7) a2))), xU, xI (z32 (a6 + 1)), xI (z32 (a7 + 1)), xL (lrem (M (a0 + 6) a7) a2), xU] [] M Q)) ∧ (¬ (¬ (z64 ((M (a0 + 6) a7) - (lrem (M (a0 + 6) a7) a2))) = a4) → Ru (d + 1) kMo_nodesOf 22 [xO 9 a0, xI a1, xL a2, xU, xL a4, xU, xI a6, xI (z32 (a7 + 1)), xL (lrem (M (a0 + 6) a7) a2), xU] [] M Q)))))))) :
    Ru (d + 1) kMo_nodesOf 22 [xO 9 a0, xI a1, xL a2, xU, xL a4, xU, xI a6, xI a7, w8, xU] [] M Q := sx_ok cMo_nodesOf 35 [10, 22] rfl h
theorem vMo_slotsIf_0 {d : Nat} {M : xM} {Q : xQ} {a0 a1 a2 a3 : Int}
    (h : ((z32 (a1 + a2)) ≤ 32 → (0 ≤ (z32 ((z32 ((z32 (17 * (z32 (a1 + a2)))) + a3)) - 1)) ∧ (z32 ((z32 ((z32 (17 * (z32 (a1 + a2)))) + a3)) - 1)) < 561) ∧ ((¬ (M (a0 + 32) (z32 ((z32 ((z32 (17 * (z32 (a1 + a2)))) + a3)) - 1))) = 1000000000 → (0 ≤ a1 ∧ a1 < 33) ∧ (Q (xI (z32 ((z32 ((M (a0 + 31) a1) * (ishl 1 a2))) + (M (a0 + 32) (z32 ((z32 ((z32 (17 * (z32 (a1 + a2)))) + a3)) - 1)))))) M)) ∧ (¬ (¬ (M (a0 + 32) (z32 ((z32 ((z32 (17 * (z32 (a1 + a2)))) + a3)) - 1))) = 1000000000) → Q (xI 1000000000) M))) ∧ (¬ ((z32 (a1 + a2)) ≤ 32) → Q (xI 1000000000) M)) :
    Ru d kMo_slotsIf 0 [xO 9 a0, xI a1, xI a2, xI a3, xU] [] M Q := sx_ok cMo_slotsIf 33 [] rfl h
theorem vMo_laysSlots_0 {d : Nat} {M : xM} {Q : xQ} {a0 : Int}
    (h : Ru (d + 1) kMo_laysSlots 2 [xO 9 a0, xI 0, xU, xU, xU] [] M Q) :
    Ru (d + 1) kMo_laysSlots 0 [xO 9 a0, xU, xU, xU, xU] [] M Q := sx_ok cMo_laysSlots 3 [2, 18, 28, 34, 61, 80, 92] rfl h
theorem vMo_laysSlots_2 {d : Nat} {M : xM} {Q : xQ} {a0 a1 : Int}
    (h : (32 < a1 → Ru (d + 1) kMo_laysSlots 28 [xO 9 a0, xI 32, xU, xU, xU] [] M Q) ∧ (¬ (32 < a1) → Ru d kMo_nodesOf 0 [xO 9 a0, xI a1, xU, xU, xU, xU, xU, xU, xU, xU] [] M (fun r N => Ru (d + 1) kMo_laysSlots 18 [xO 9 a0, xI a1, xU, xU, xU] [r, xI a1, xAI 33 (a0 + 31)] N Q))) :
    Ru (d + 1) kMo_laysSlots 2 [xO 9 a0, xI a1, xU, xU, xU] [] M Q := sx_ok cMo_laysSlots 10 [2, 18, 28, 34, 61, 80, 92] rfl h
theorem vMo_laysSlots_18 {d : Nat} {M : xM} {Q : xQ} {a0 a1 s0 s1 s2 : Int}
    (h : (0 ≤ s1 ∧ s1 < 33) ∧ (Ru (d + 1) kMo_laysSlots 2 [xO 9 a0, xI (z32 (a1 + 1)), xU, xU, xU] [] (up M s2 s1 s0) Q)) :
    Ru (d + 1) kMo_laysSlots 18 [xO 9 a0, xI a1, xU, xU, xU] [xI s0, xI s1, xAI 33 s2] M Q := sx_ok cMo_laysSlots 4 [2, 18, 28, 34, 61, 80, 92] rfl h
theorem vMo_laysSlots_28 {d : Nat} {M : xM} {Q : xQ} {a0 a1 : Int} {w2 w3 w4 : xV}
    (h : (a1 < 0 → Q xU M) ∧ (¬ (a1 < 0) → Ru (d + 1) kMo_laysSlots 34 [xO 9 a0, xI a1, xI 0, w3, w4] [] M Q)) :
    Ru (d + 1) kMo_laysSlots 28 [xO 9 a0, xI a1, w2, w3, w4] [] M Q := sx_ok cMo_laysSlots 5 [2, 18, 28, 34, 61, 80, 92] rfl h
theorem vMo_laysSlots_34 {d : Nat} {M : xM} {Q : xQ} {a0 a1 a2 : Int} {w3 w4 : xV}
    (h : (16 < a2 → Ru (d + 1) kMo_laysSlots 28 [xO 9 a0, xI (z32 (a1 + (-1))), xI a2, w3, w4] [] M Q) ∧ (¬ (16 < a2) → (¬ a1 = 32 → Ru (d + 1) kMo_laysSlots 61 [xO 9 a0, xI a1, xI a2, xI 1000000000, xI 2] [] M Q) ∧ (¬ (¬ a1 = 32) → (¬ a2 = 0 → Ru (d + 1) kMo_laysSlots 61 [xO 9 a0, xI a1, xI a2, xI 1000000000, xI 2] [] M Q) ∧ (¬ (¬ a2 = 0) → Ru (d + 1) kMo_laysSlots 61 [xO 9 a0, xI a1, xI a2, xI 0, xI 2] [] M Q)))) :
    Ru (d + 1) kMo_laysSlots 34 [xO 9 a0, xI a1, xI a2, w3, w4] [] M Q := sx_ok cMo_laysSlots 14 [2, 18, 28, 34, 61, 80, 92] rfl h
theorem vMo_laysSlots_61 {d : Nat} {M : xM} {Q : xQ} {a0 a1 a2 a3 a4 : Int}
    (h : (6 < a4 → (0 ≤ (z32 ((z32 (17 * a1)) + a2)) ∧ (z32 ((z32 (17 * a1)) + a2)) < 561) ∧ (Ru (d + 1) kMo_laysSlots 34 [xO 9 a0, xI a1, xI (z32 (a2 + 1)), xI a3, xI a4] [] (up M (a0 + 32) (z32 ((z32 (17 * a1)) + a2)) a3) Q)) ∧ (¬ (6 < a4) → (a2 ≤ 0 → (0 ≤ (z32 ((z32 (17 * a1)) + a2)) ∧ (z32 ((z32 (17 * a1)) + a2)) < 561) ∧ (Ru (d + 1) kMo_laysSlots 34 [xO 9 a0, xI a1, xI (z32 (a2 + 1)), xI a3, xI a4] [] (up M (a0 + 32) (z32 ((z32 (17 * a1)) + a2)) a3) Q)) ∧ (¬ (a2 ≤ 0) → Ru d kMo_slotsIf 0 [xO 9 a0, xI a1, xI a4, xI a2, xU] [] M (fun r N => Ru (d + 1) kMo_laysSlots 80 [xO 9 a0, xI a1, xI a2, xI a3, xI a4] [r] N Q)))) :
    Ru (d + 1) kMo_laysSlots 61 [xO 9 a0, xI a1, xI a2, xI a3, xI a4] [] M Q := sx_ok cMo_laysSlots 17 [2, 18, 28, 34, 61, 80, 92] rfl h
theorem vMo_laysSlots_80 {d : Nat} {M : xM} {Q : xQ} {a0 a1 a2 a3 a4 s0 : Int}
    (h : (a3 ≤ s0 → Ru (d + 1) kMo_laysSlots 61 [xO 9 a0, xI a1, xI a2, xI a3, xI (z32 (a4 + 1))] [] M Q) ∧ (¬ (a3 ≤ s0) → Ru d kMo_slotsIf 0 [xO 9 a0, xI a1, xI a4, xI a2, xU] [] M (fun r N => Ru (d + 1) kMo_laysSlots 92 [xO 9 a0, xI a1, xI a2, xI a3, xI a4] [r] N Q))) :
    Ru (d + 1) kMo_laysSlots 80 [xO 9 a0, xI a1, xI a2, xI a3, xI a4] [xI s0] M Q := sx_ok cMo_laysSlots 8 [2, 18, 28, 34, 61, 80, 92] rfl h
theorem vMo_laysSlots_92 {d : Nat} {M : xM} {Q : xQ} {a0 a1 a2 a3 a4 s0 : Int}
    (h : Ru (d + 1) kMo_laysSlots 61 [xO 9 a0, xI a1, xI a2, xI s0, xI (z32 (a4 + 1))] [] M Q) :
    Ru (d + 1) kMo_laysSlots 92 [xO 9 a0, xI a1, xI a2, xI a3, xI a4] [xI s0] M Q := sx_ok cMo_laysSlots 5 [2, 18, 28, 34, 61, 80, 92] rfl h
theorem vMo_stridesOf_0 {d : Nat} {M : xM} {Q : xQ} {a0 a1 : Int}
    (h : Ru (d + 1) kMo_stridesOf 8 [xO 9 a0, xI a1, xL 0, xU, xI 0, xI a1, xU] [] M Q) :
    Ru (d + 1) kMo_stridesOf 0 [xO 9 a0, xI a1, xU, xU, xU, xU, xU] [] M Q := sx_ok cMo_stridesOf 7 [8, 16, 26] rfl h
theorem vMo_stridesOf_8 {d : Nat} {M : xM} {Q : xQ} {a0 a1 a2 a4 a5 : Int} {w6 : xV}
    (h : (a5 ≤ 0 → Q (xL a2) M) ∧ (¬ (a5 ≤ 0) → Ru (d + 1) kMo_stridesOf 16 [xO 9 a0, xI a1, xL a2, xU, xI a4, xI a5, xI 2] [] M Q)) :
    Ru (d + 1) kMo_stridesOf 8 [xO 9 a0, xI a1, xL a2, xU, xI a4, xI a5, w6] [] M Q := sx_ok cMo_stridesOf 5 [8, 16, 26] rfl h
theorem vMo_stridesOf_16 {d : Nat} {M : xM} {Q : xQ} {a0 a1 a2 a4 a5 a6 : Int}
    (h : Ru d kMo_slotsIf 0 [xO 9 a0, xI a4, xI a6, xI a5, xU] [] M (fun r N => Ru (d + 1) kMo_stridesOf 26 [xO 9 a0, xI a1, xL a2, xU, xI a4, xI a5, xI a6] [r] N Q)) :
    Ru (d + 1) kMo_stridesOf 16 [xO 9 a0, xI a1, xL a2, xU, xI a4, xI a5, xI a6] [] M Q := sx_ok cMo_stridesOf 6 [8, 16, 26] rfl h
theorem vMo_stridesOf_26 {d : Nat} {M : xM} {Q : xQ} {a0 a1 a2 a4 a5 a6 s0 : Int}
    (h : (0 ≤ (z32 ((z32 (17 * a4)) + a5)) ∧ (z32 ((z32 (17 * a4)) + a5)) < 561) ∧ ((s0 = (M (a0 + 32) (z32 ((z32 (17 * a4)) + a5))) → Ru (d + 1) kMo_stridesOf 8 [xO 9 a0, xI a1, xL (z64 ((z64 (10 * a2)) + a6)), xU, xI (z32 (a4 + a6)), xI (z32 (a5 + (-1))), xI a6] [] M Q) ∧ (¬ (s0 = (M (a0 + 32) (z32 ((z32 (17 * a4)) + a5)))) → Ru (d + 1) kMo_stridesOf 16 [xO 9 a0, xI a1, xL a2, xU, xI a4, xI a5, xI (z32 (a6 + 1))] [] M Q))) :
    Ru (d + 1) kMo_stridesOf 26 [xO 9 a0, xI a1, xL a2, xU, xI a4, xI a5, xI a6] [xI s0] M Q := sx_ok cMo_stridesOf 23 [8, 16, 26] rfl h
theorem vMo_best_0 {d : Nat} {M : xM} {Q : xQ} {a0 a1 a2 : Int}
    (h : Ru d kMo_isIn 0 [xL a1, xU, xL 6, xU, xL 16, xU] [] M (fun r N => Ru (d + 1) kMo_best 11 [xO 9 a0, xI a1, xI a2, xU, xU] [r] N Q)) :
    Ru (d + 1) kMo_best 0 [xO 9 a0, xI a1, xI a2, xU, xU] [] M Q := sx_ok cMo_best 6 [11, 21, 32, 39, 93] rfl h
theorem vMo_best_11 {d : Nat} {M : xM} {Q : xQ} {a0 a1 a2 s0 : Int}
    (h : (s0 = 0 → Q (xL (-1)) M) ∧ (¬ (s0 = 0) → Ru d kMo_isIn 0 [xL a2, xU, xL 0, xU, xL 1, xU] [] M (fun r N => Ru (d + 1) kMo_best 21 [xO 9 a0, xI a1, xI a2, xU, xU] [r] N Q))) :
    Ru (d + 1) kMo_best 11 [xO 9 a0, xI a1, xI a2, xU, xU] [xI s0] M Q := sx_ok cMo_best 7 [11, 21, 32, 39, 93] rfl h
theorem vMo_best_21 {d : Nat} {M : xM} {Q : xQ} {a0 a1 a2 s0 : Int}
    (h : (¬ s0 = 0 → Ru d kMo_laysSlots 0 [xO 9 a0, xU, xU, xU, xU] [] M (fun r N => Ru (d + 1) kMo_best 32 [xO 9 a0, xI a1, xI a2, xU, xU] [] N Q)) ∧ (¬ (¬ s0 = 0) → Q (xL (-1)) M)) :
    Ru (d + 1) kMo_best 21 [xO 9 a0, xI a1, xI a2, xU, xU] [xI s0] M Q := sx_ok cMo_best 4 [11, 21, 32, 39, 93] rfl h
theorem vMo_best_32 {d : Nat} {M : xM} {Q : xQ} {a0 a1 a2 : Int}
    (h : Ru (d + 1) kMo_best 39 [xO 9 a0, xI a1, xI a2, xI 6, xI 7] [] M Q) :
    Ru (d + 1) kMo_best 32 [xO 9 a0, xI a1, xI a2, xU, xU] [] M Q := sx_ok cMo_best 5 [11, 21, 32, 39, 93] rfl h
theorem vMo_best_39 {d : Nat} {M : xM} {Q : xQ} {a0 a1 a2 a3 a4 : Int}
    (h : (a1 < a4 → (¬ a2 = 0 → Ru d kMo_stridesOf 0 [xO 9 a0, xI a3, xU, xU, xU, xU, xU] [] M (fun r N => Ru (d + 1) kMo_best 93 [xO 9 a0, xI a1, xI a2, xI a3, xI a4] [r] N Q)) ∧ (¬ (¬ a2 = 0) → (0 ≤ a3 ∧ a3 < 561) ∧ (Ru (d + 1) kMo_best 93 [xO 9 a0, xI a1, xI a2, xI a3, xI a4] [xL (M (a0 + 32) a3)] M Q))) ∧ (¬ (a1 < a4) → (0 ≤ a4 ∧ a4 < 561) ∧ ((0 ≤ a3 ∧ a3 < 561) ∧ (((M (a0 + 32) a3) ≤ (M (a0 + 32) a4) → Ru (d + 1) kMo_best 39 [xO 9 a0, xI a1, xI a2, xI a3, xI (z32 (a4 + 1))] [] M Q) ∧ (¬ ((M (a0 + 32) a3) ≤ (M (a0 + 32) a4)) → Ru (d + 1) kMo_best 39 [xO 9 a0, xI a1, xI a2, xI a4, xI (z32 (a4 + 1))] [] M Q))))) :
    Ru (d + 1) kMo_best 39 [xO 9 a0, xI a1, xI a2, xI a3, xI a4] [] M Q := sx_ok cMo_best 18 [11, 21, 32, 39, 93] rfl h
theorem vMo_best_93 {d : Nat} {M : xM} {Q : xQ} {a0 a1 a2 a3 a4 s0 : Int}
    (h : Q (xL s0) M) :
    Ru (d + 1) kMo_best 93 [xO 9 a0, xI a1, xI a2, xI a3, xI a4] [xL s0] M Q := sx_ok cMo_best 2 [11, 21, 32, 39, 93] rfl h
theorem vMo_hops_0 {d : Nat} {M : xM} {Q : xQ} {a0 : Int}
    (h : Ru d kMo_hops 4 [xO 9 a0, xI 0, xI 0] [] M Q) :
    Ru d kMo_hops 0 [xO 9 a0, xU, xU] [] M Q := sx_ok cMo_hops 5 [4] rfl h
theorem vMo_hops_4 {d : Nat} {M : xM} {Q : xQ} {a0 a1 a2 : Int}
    (h : (60 < a2 → Q (xI a1) M) ∧ (¬ (60 < a2) → (0 ≤ (z32 (182 + a2)) ∧ (z32 (182 + a2)) < 259) ∧ ((¬ (M (a0 + 1) (z32 (182 + a2))) = (-1) → Ru d kMo_hops 4 [xO 9 a0, xI (z32 (a1 + 1)), xI (z32 (a2 + 1))] [] M Q) ∧ (¬ (¬ (M (a0 + 1) (z32 (182 + a2))) = (-1)) → Ru d kMo_hops 4 [xO 9 a0, xI (z32 (a1 + 0)), xI (z32 (a2 + 1))] [] M Q)))) :
    Ru d kMo_hops 4 [xO 9 a0, xI a1, xI a2] [] M Q := sx_ok cMo_hops 19 [4] rfl h
theorem vMo_idle_0 {d : Nat} {M : xM} {Q : xQ} {a0 : Int}
    (h : Ru (d + 1) kMo_idle 4 [xO 9 a0, xI 0, xI 0] [] M Q) :
    Ru (d + 1) kMo_idle 0 [xO 9 a0, xU, xU] [] M Q := sx_ok cMo_idle 5 [4, 20] rfl h
theorem vMo_idle_4 {d : Nat} {M : xM} {Q : xQ} {a0 a1 a2 : Int}
    (h : (0 ≤ (0 : Int) ∧ (0 : Int) < 259) ∧ (((M (a0 + 1) 0) ≤ a2 → Q (xI a1) M) ∧ (¬ ((M (a0 + 1) 0) ≤ a2) → Ru d kMo_servedBy 0 [xO 9 a0, xI a2, xU, xU, xU] [] M (fun r N => Ru (d + 1) kMo_idle 20 [xO 9 a0, xI a1, xI a2] [r, xI a1] N Q)))) :
    Ru (d + 1) kMo_idle 4 [xO 9 a0, xI a1, xI a2] [] M Q := sx_ok cMo_idle 11 [4, 20] rfl h
theorem vMo_idle_20 {d : Nat} {M : xM} {Q : xQ} {a0 a1 a2 s0 s1 : Int}
    (h : (¬ s0 = 0 → Ru (d + 1) kMo_idle 4 [xO 9 a0, xI (z32 (s1 + 0)), xI (z32 (a2 + 1))] [] M Q) ∧ (¬ (¬ s0 = 0) → Ru (d + 1) kMo_idle 4 [xO 9 a0, xI (z32 (s1 + 1)), xI (z32 (a2 + 1))] [] M Q)) :
    Ru (d + 1) kMo_idle 20 [xO 9 a0, xI a1, xI a2] [xL s0, xI s1] M Q := sx_ok cMo_idle 9 [4, 20] rfl h
theorem vMo_allLevels_0 {d : Nat} {M : xM} {Q : xQ} {a0 a1 : Int}
    (h : Ru (d + 1) kMo_allLevels 4 [xO 9 a0, xI a1, xI 0, xI 0] [] M Q) :
    Ru (d + 1) kMo_allLevels 0 [xO 9 a0, xI a1, xU, xU] [] M Q := sx_ok cMo_allLevels 5 [4, 21] rfl h
theorem vMo_allLevels_4 {d : Nat} {M : xM} {Q : xQ} {a0 a1 a2 a3 : Int}
    (h : (0 ≤ (0 : Int) ∧ (0 : Int) < 2) ∧ (((M (a0 + 8) 0) ≤ a3 → Q (xI a2) M) ∧ (¬ ((M (a0 + 8) 0) ≤ a3) → Ru d kMo_level 0 [xO 9 a0, xI a3, xI a1] [] M (fun r N => Ru (d + 1) kMo_allLevels 21 [xO 9 a0, xI a1, xI a2, xI a3] [r, xI a2] N Q)))) :
    Ru (d + 1) kMo_allLevels 4 [xO 9 a0, xI a1, xI a2, xI a3] [] M Q := sx_ok cMo_allLevels 12 [4, 21] rfl h
theorem vMo_allLevels_21 {d : Nat} {M : xM} {Q : xQ} {a0 a1 a2 a3 s0 s1 : Int}
    (h : Ru (d + 1) kMo_allLevels 4 [xO 9 a0, xI a1, xI (z32 (s1 + s0)), xI (z32 (a3 + 1))] [] M Q) :
    Ru (d + 1) kMo_allLevels 21 [xO 9 a0, xI a1, xI a2, xI a3] [xI s0, xI s1] M Q := sx_ok cMo_allLevels 5 [4, 21] rfl h
theorem vMo_keptSet_0 {d : Nat} {M : xM} {Q : xQ} {a0 : Int}
    (h : Ru d kMo_keptSet 4 [xO 9 a0, xI 0, xI 0] [] M Q) :
    Ru d kMo_keptSet 0 [xO 9 a0, xU, xU] [] M Q := sx_ok cMo_keptSet 5 [4] rfl h
theorem vMo_keptSet_4 {d : Nat} {M : xM} {Q : xQ} {a0 a1 a2 : Int}
    (h : (2 ≤ a2 → Q (xI a1) M) ∧ (¬ (2 ≤ a2) → (0 ≤ a2 ∧ a2 < 2) ∧ (((M (a0 + 4) a2) = 0 → Ru d kMo_keptSet 4 [xO 9 a0, xI (ior a1 0), xI (z32 (a2 + 1))] [] M Q) ∧ (¬ ((M (a0 + 4) a2) = 0) → Ru d kMo_keptSet 4 [xO 9 a0, xI (ior a1 (ishl 1 a2)), xI (z32 (a2 + 1))] [] M Q)))) :
    Ru d kMo_keptSet 4 [xO 9 a0, xI a1, xI a2] [] M Q := sx_ok cMo_keptSet 18 [4] rfl h
theorem vMo_count_0 {d : Nat} {M : xM} {Q : xQ} {a0 a1 : Int}
    (h : (a1 = 0 → (0 ≤ (0 : Int) ∧ (0 : Int) < 259) ∧ (Q (xI (M (a0 + 1) 0)) M)) ∧ (¬ a1 = 0 → (a1 = 1 → Ru d kMo_hops 0 [xO 9 a0, xU, xU] [] M (fun r N => Ru (d + 1) kMo_count 79 [xO 9 a0, xI a1] [r] N Q)) ∧ (¬ a1 = 1 → (a1 = 2 → (0 ≤ (1 : Int) ∧ (1 : Int) < 259) ∧ (Q (xI (M (a0 + 1) 1)) M)) ∧ (¬ a1 = 2 → (a1 = 3 → Q (xI (M a0 15)) M) ∧ (¬ a1 = 3 → (a1 = 4 → Ru d kMo_allLevels 0 [xO 9 a0, xI 3, xU, xU] [] M (fun r N => Ru (d + 1) kMo_count 97 [xO 9 a0, xI a1] [r] N Q)) ∧ (¬ a1 = 4 → (a1 = 5 → Ru d kMo_allLevels 0 [xO 9 a0, xI 2, xU, xU] [] M (fun r N => Ru (d + 1) kMo_count 103 [xO 9 a0, xI a1] [r] N Q)) ∧ (¬ a1 = 5 → (a1 = 6 → (0 ≤ (0 : Int) ∧ (0 : Int) < 2) ∧ (Q (xI (M (a0 + 5) 0)) M)) ∧ (¬ a1 = 6 → (a1 = 7 → Ru d kMo_idle 0 [xO 9 a0, xU, xU] [] M (fun r N => Ru (d + 1) kMo_count 115 [xO 9 a0, xI a1] [r] N Q)) ∧ (¬ a1 = 7 → (a1 = 8 → Q (xI (M a0 5)) M) ∧ (¬ a1 = 8 → (a1 = 9 → Q (xI (M a0 2)) M) ∧ (¬ a1 = 9 → (a1 = 10 → Q (xI (M a0 35)) M) ∧ (¬ a1 = 10 → (a1 = 11 → Ru d kMo_keptSet 0 [xO 9 a0, xU, xU] [] M (fun r N => Ru (d + 1) kMo_count 135 [xO 9 a0, xI a1] [r] N Q)) ∧ (¬ a1 = 11 → (a1 = 12 → (0 ≤ (z32 ((M a0 15) - 1)) ∧ (z32 ((M a0 15) - 1)) < 2000) ∧ (Q (xI (z32 ((M (a0 + 13) (z32 ((M a0 15) - 1))) + 1))) M)) ∧ (¬ a1 = 12 → Q (xI (-1)) M)))))))))))))) :
    Ru (d + 1) kMo_count 0 [xO 9 a0, xI a1] [] M Q := sx_ok cMo_count 13 [79, 97, 103, 115, 135] rfl h
theorem vMo_count_79 {d : Nat} {M : xM} {Q : xQ} {a0 a1 s0 : Int}
    (h : Q (xI s0) M) :
    Ru (d + 1) kMo_count 79 [xO 9 a0, xI a1] [xI s0] M Q := sx_ok cMo_count 2 [79, 97, 103, 115, 135] rfl h
theorem vMo_count_97 {d : Nat} {M : xM} {Q : xQ} {a0 a1 s0 : Int}
    (h : Q (xI s0) M) :
    Ru (d + 1) kMo_count 97 [xO 9 a0, xI a1] [xI s0] M Q := sx_ok cMo_count 2 [79, 97, 103, 115, 135] rfl h
theorem vMo_count_103 {d : Nat} {M : xM} {Q : xQ} {a0 a1 s0 : Int}
    (h : Q (xI s0) M) :
    Ru (d + 1) kMo_count 103 [xO 9 a0, xI a1] [xI s0] M Q := sx_ok cMo_count 2 [79, 97, 103, 115, 135] rfl h
theorem vMo_count_115 {d : Nat} {M : xM} {Q : xQ} {a0 a1 s0 : Int}
    (h : Q (xI s0) M) :
    Ru (d + 1) kMo_count 115 [xO 9 a0, xI a1] [xI s0] M Q := sx_ok cMo_count 2 [79, 97, 103, 115, 135] rfl h
theorem vMo_count_135 {d : Nat} {M : xM} {Q : xQ} {a0 a1 s0 : Int}
    (h : Q (xI s0) M) :
    Ru (d + 1) kMo_count 135 [xO 9 a0, xI a1] [xI s0] M Q := sx_ok cMo_count 2 [79, 97, 103, 115, 135] rfl h
