theorem vRS_feed_0 {d : Nat} {M : xM} {Q : xQ} {a0 a1 a2 a3 a4 a5 : Int}
    (h : Ru d kTape_hasRoom 0 [xO 7 (a0 + 1)] [] M (fun r N => Ru (d + 1) kRS_feed 7 [xO 8 a0, xI a1, xI a2, xI a3, xI a4, xI a5] [r] N Q)) :
    Ru (d + 1) kRS_feed 0 [xO 8 a0, xI a1, xI a2, xI a3, xI a4, xI a5] [] M Q := sx_ok cRS_feed 4 [7, 20, 28, 36, 45, 54] rfl h
theorem vRS_feed_7 {d : Nat} {M : xM} {Q : xQ} {a0 a1 a2 a3 a4 a5 s0 : Int}
    (h : (¬ s0 = 0 → Ru d kTape_append 0 [xO 7 (a0 + 1), xI a1, xU] [] M (fun r N => Ru (d + 1) kRS_feed 20 [xO 8 a0, xI a1, xI a2, xI a3, xI a4, xI a5] [] N Q)) ∧ (¬ (¬ s0 = 0) → Q (xI (-1)) M)) :
    Ru (d + 1) kRS_feed 7 [xO 8 a0, xI a1, xI a2, xI a3, xI a4, xI a5] [xI s0] M Q := sx_ok cRS_feed 6 [7, 20, 28, 36, 45, 54] rfl h
theorem vRS_feed_20 {d : Nat} {M : xM} {Q : xQ} {a0 a1 a2 a3 a4 a5 : Int}
    (h : Ru d kTape_append 0 [xO 7 (a0 + 1), xI a2, xU] [] M (fun r N => Ru (d + 1) kRS_feed 28 [xO 8 a0, xI a1, xI a2, xI a3, xI a4, xI a5] [] N Q)) :
    Ru (d + 1) kRS_feed 20 [xO 8 a0, xI a1, xI a2, xI a3, xI a4, xI a5] [] M Q := sx_ok cRS_feed 5 [7, 20, 28, 36, 45, 54] rfl h
theorem vRS_feed_28 {d : Nat} {M : xM} {Q : xQ} {a0 a1 a2 a3 a4 a5 : Int}
    (h : Ru d kTape_append 0 [xO 7 (a0 + 1), xI a3, xU] [] M (fun r N => Ru (d + 1) kRS_feed 36 [xO 8 a0, xI a1, xI a2, xI a3, xI a4, xI a5] [] N Q)) :
    Ru (d + 1) kRS_feed 28 [xO 8 a0, xI a1, xI a2, xI a3, xI a4, xI a5] [] M Q := sx_ok cRS_feed 5 [7, 20, 28, 36, 45, 54] rfl h
theorem vRS_feed_36 {d : Nat} {M : xM} {Q : xQ} {a0 a1 a2 a3 a4 a5 : Int}
    (h : Ru d kTape_append 0 [xO 7 (a0 + 1), xI a4, xU] [] M (fun r N => Ru (d + 1) kRS_feed 45 [xO 8 a0, xI a1, xI a2, xI a3, xI a4, xI a5] [] N Q)) :
    Ru (d + 1) kRS_feed 36 [xO 8 a0, xI a1, xI a2, xI a3, xI a4, xI a5] [] M Q := sx_ok cRS_feed 5 [7, 20, 28, 36, 45, 54] rfl h
theorem vRS_feed_45 {d : Nat} {M : xM} {Q : xQ} {a0 a1 a2 a3 a4 a5 : Int}
    (h : Ru d kTape_append 0 [xO 7 (a0 + 1), xI a5, xU] [] M (fun r N => Ru (d + 1) kRS_feed 54 [xO 8 a0, xI a1, xI a2, xI a3, xI a4, xI a5] [] N Q)) :
    Ru (d + 1) kRS_feed 45 [xO 8 a0, xI a1, xI a2, xI a3, xI a4, xI a5] [] M Q := sx_ok cRS_feed 5 [7, 20, 28, 36, 45, 54] rfl h
theorem vRS_feed_54 {d : Nat} {M : xM} {Q : xQ} {a0 a1 a2 a3 a4 a5 : Int}
    (h : Q (xI (M (a0 + 1) 0)) M) :
    Ru (d + 1) kRS_feed 54 [xO 8 a0, xI a1, xI a2, xI a3, xI a4, xI a5] [] M Q := sx_ok cRS_feed 5 [7, 20, 28, 36, 45, 54] rfl h
theorem vRS_end_0 {d : Nat} {M : xM} {Q : xQ} {a0 a1 : Int}
    (h : (a1 < 0 → Q (xI (-1)) M) ∧ (¬ (a1 < 0) → (a1 ≤ (M (a0 + 1) 0) → Q (xI a1) (up M (a0 + 1) 0 a1)) ∧ (¬ (a1 ≤ (M (a0 + 1) 0)) → Q (xI (-1)) M))) :
    Ru d kRS_end 0 [xO 8 a0, xI a1] [] M Q := sx_ok cRS_end 14 [] rfl h
theorem vRS_tell_0 {d : Nat} {M : xM} {Q : xQ} {a0 : Int}
    (h : Ru d kTape_readInto 0 [xO 7 (a0 + 1), xO 6 (a0 + 10), xU, xU] [] M (fun r N => Ru (d + 1) kRS_tell 11 [xO 8 a0, xU] [r] N Q)) :
    Ru (d + 1) kRS_tell 0 [xO 8 a0, xU] [] M Q := sx_ok cRS_tell 6 [11, 40, 44] rfl h
theorem vRS_tell_11 {d : Nat} {M : xM} {Q : xQ} {a0 s0 : Int}
    (h : (s0 = 0 → Ru d kTable_copyFrom 0 [xO 6 (a0 + 3), xO 6 (a0 + 10), xU] [] (up M (a0 + 1) 0 0) (fun r N => Ru (d + 1) kRS_tell 40 [xO 8 a0, xI s0] [] N Q)) ∧ (¬ (s0 = 0) → Q (xI (z32 ((-2) - s0))) (up M (a0 + 1) 0 0))) :
    Ru (d + 1) kRS_tell 11 [xO 8 a0, xU] [xI s0] M Q := sx_ok cRS_tell 13 [11, 40, 44] rfl h
theorem vRS_tell_40 {d : Nat} {M : xM} {Q : xQ} {a0 a1 : Int}
    (h : Ru d kRS_forgetActs 0 [xO 8 a0] [] M (fun r N => Ru (d + 1) kRS_tell 44 [xO 8 a0, xI a1] [] N Q)) :
    Ru (d + 1) kRS_tell 40 [xO 8 a0, xI a1] [] M Q := sx_ok cRS_tell 3 [11, 40, 44] rfl h
theorem vRS_tell_44 {d : Nat} {M : xM} {Q : xQ} {a0 a1 : Int}
    (h : Q (xI (M (a0 + 3) 0)) M) :
    Ru (d + 1) kRS_tell 44 [xO 8 a0, xI a1] [] M Q := sx_ok cRS_tell 5 [11, 40, 44] rfl h
theorem vRS_add_0 {d : Nat} {M : xM} {Q : xQ} {a0 a1 a2 a3 a4 : Int}
    (h : Ru d kRS_isBeginning 0 [xI a1, xI a2] [] M (fun r N => Ru (d + 1) kRS_add 5 [xO 8 a0, xI a1, xI a2, xI a3, xI a4, xU, xU] [r] N Q)) :
    Ru (d + 1) kRS_add 0 [xO 8 a0, xI a1, xI a2, xI a3, xI a4, xU, xU] [] M Q := sx_ok cRS_add 4 [5, 14, 25, 35, 49, 57, 63] rfl h
theorem vRS_add_5 {d : Nat} {M : xM} {Q : xQ} {a0 a1 a2 a3 a4 s0 : Int}
    (h : (s0 = 0 → Q (xI (-1)) M) ∧ (¬ (s0 = 0) → Ru d kRS_isWay 0 [xI a3, xI a4] [] M (fun r N => Ru (d + 1) kRS_add 14 [xO 8 a0, xI a1, xI a2, xI a3, xI a4, xU, xU] [r] N Q))) :
    Ru (d + 1) kRS_add 5 [xO 8 a0, xI a1, xI a2, xI a3, xI a4, xU, xU] [xI s0] M Q := sx_ok cRS_add 5 [5, 14, 25, 35, 49, 57, 63] rfl h
theorem vRS_add_14 {d : Nat} {M : xM} {Q : xQ} {a0 a1 a2 a3 a4 s0 : Int}
    (h : (¬ s0 = 0 → Ru d kRS_keyOf 0 [xI a3, xI a4] [] M (fun r N => Ru (d + 1) kRS_add 25 [xO 8 a0, xI a1, xI a2, xI a3, xI a4, xU, xU] [r] N Q)) ∧ (¬ (¬ s0 = 0) → Q (xI (-1)) M)) :
    Ru (d + 1) kRS_add 14 [xO 8 a0, xI a1, xI a2, xI a3, xI a4, xU, xU] [xI s0] M Q := sx_ok cRS_add 5 [5, 14, 25, 35, 49, 57, 63] rfl h
theorem vRS_add_25 {d : Nat} {M : xM} {Q : xQ} {a0 a1 a2 a3 a4 s0 : Int}
    (h : Ru d kRS_stateOf 0 [xO 8 a0, xI a1, xI a2, xI s0, xU] [] M (fun r N => Ru (d + 1) kRS_add 35 [xO 8 a0, xI a1, xI a2, xI a3, xI a4, xI s0, xU] [r] N Q)) :
    Ru (d + 1) kRS_add 25 [xO 8 a0, xI a1, xI a2, xI a3, xI a4, xU, xU] [xI s0] M Q := sx_ok cRS_add 7 [5, 14, 25, 35, 49, 57, 63] rfl h
theorem vRS_add_35 {d : Nat} {M : xM} {Q : xQ} {a0 a1 a2 a3 a4 a5 s0 : Int}
    (h : (s0 = 0 → Ru d kRS_beginAct 0 [xO 8 a0] [] M (fun r N => Ru (d + 1) kRS_add 49 [xO 8 a0, xI a1, xI a2, xI a3, xI a4, xI a5, xI s0] [] N Q)) ∧ (¬ (s0 = 0) → Q (xI s0) M)) :
    Ru (d + 1) kRS_add 35 [xO 8 a0, xI a1, xI a2, xI a3, xI a4, xI a5, xU] [xI s0] M Q := sx_ok cRS_add 6 [5, 14, 25, 35, 49, 57, 63] rfl h
theorem vRS_add_49 {d : Nat} {M : xM} {Q : xQ} {a0 a1 a2 a3 a4 a5 a6 : Int}
    (h : Ru d kRS_unsigned 0 [xI a1] [] M (fun r N => Ru (d + 1) kRS_add 57 [xO 8 a0, xI a1, xI a2, xI a3, xI a4, xI a5, xI a6] [r, xO 6 (a0 + 3)] N Q)) :
    Ru (d + 1) kRS_add 49 [xO 8 a0, xI a1, xI a2, xI a3, xI a4, xI a5, xI a6] [] M Q := sx_ok cRS_add 5 [5, 14, 25, 35, 49, 57, 63] rfl h
theorem vRS_add_57 {d : Nat} {M : xM} {Q : xQ} {a0 a1 a2 a3 a4 a5 a6 s0 s1 : Int}
    (h : Ru d kTable_put 0 [xO 6 s1, xL s0, xU, xI a2, xI a5, xU] [] M (fun r N => Ru (d + 1) kRS_add 63 [xO 8 a0, xI a1, xI a2, xI a3, xI a4, xI a5, xI a6] [r] N Q)) :
    Ru (d + 1) kRS_add 57 [xO 8 a0, xI a1, xI a2, xI a3, xI a4, xI a5, xI a6] [xL s0, xO 6 s1] M Q := sx_ok cRS_add 4 [5, 14, 25, 35, 49, 57, 63] rfl h
theorem vRS_add_63 {d : Nat} {M : xM} {Q : xQ} {a0 a1 a2 a3 a4 a5 a6 s0 : Int}
    (h : Q (xI s0) M) :
    Ru (d + 1) kRS_add 63 [xO 8 a0, xI a1, xI a2, xI a3, xI a4, xI a5, xI a6] [xI s0] M Q := sx_ok cRS_add 2 [5, 14, 25, 35, 49, 57, 63] rfl h
theorem vRS_withdraw_0 {d : Nat} {M : xM} {Q : xQ} {a0 a1 a2 : Int}
    (h : Ru d kRS_isBeginning 0 [xI a1, xI a2] [] M (fun r N => Ru (d + 1) kRS_withdraw 5 [xO 8 a0, xI a1, xI a2, xU] [r] N Q)) :
    Ru (d + 1) kRS_withdraw 0 [xO 8 a0, xI a1, xI a2, xU] [] M Q := sx_ok cRS_withdraw 4 [5, 18, 22, 33, 41] rfl h
theorem vRS_withdraw_5 {d : Nat} {M : xM} {Q : xQ} {a0 a1 a2 s0 : Int}
    (h : (¬ s0 = 0 → Ru d kRS_unsigned 0 [xI a1] [] M (fun r N => Ru (d + 1) kRS_withdraw 18 [xO 8 a0, xI a1, xI a2, xU] [r, xO 6 (a0 + 3)] N Q)) ∧ (¬ (¬ s0 = 0) → Q (xI (-1)) M)) :
    Ru (d + 1) kRS_withdraw 5 [xO 8 a0, xI a1, xI a2, xU] [xI s0] M Q := sx_ok cRS_withdraw 6 [5, 18, 22, 33, 41] rfl h
theorem vRS_withdraw_18 {d : Nat} {M : xM} {Q : xQ} {a0 a1 a2 s0 s1 : Int}
    (h : Ru d kTable_find 0 [xO 6 s1, xL s0, xU, xI a2, xU] [] M (fun r N => Ru (d + 1) kRS_withdraw 22 [xO 8 a0, xI a1, xI a2, xU] [r] N Q)) :
    Ru (d + 1) kRS_withdraw 18 [xO 8 a0, xI a1, xI a2, xU] [xL s0, xO 6 s1] M Q := sx_ok cRS_withdraw 3 [5, 18, 22, 33, 41] rfl h
theorem vRS_withdraw_22 {d : Nat} {M : xM} {Q : xQ} {a0 a1 a2 s0 : Int}
    (h : (0 ≤ s0 → Ru d kRS_beginAct 0 [xO 8 a0] [] M (fun r N => Ru (d + 1) kRS_withdraw 33 [xO 8 a0, xI a1, xI a2, xI s0] [] N Q)) ∧ (¬ (0 ≤ s0) → Q (xI (-1)) M)) :
    Ru (d + 1) kRS_withdraw 22 [xO 8 a0, xI a1, xI a2, xU] [xI s0] M Q := sx_ok cRS_withdraw 6 [5, 18, 22, 33, 41] rfl h
theorem vRS_withdraw_33 {d : Nat} {M : xM} {Q : xQ} {a0 a1 a2 a3 : Int}
    (h : Ru d kTable_drop 0 [xO 6 (a0 + 3), xI a3, xU] [] M (fun r N => Ru (d + 1) kRS_withdraw 41 [xO 8 a0, xI a1, xI a2, xI a3] [] N Q)) :
    Ru (d + 1) kRS_withdraw 33 [xO 8 a0, xI a1, xI a2, xI a3] [] M Q := sx_ok cRS_withdraw 5 [5, 18, 22, 33, 41] rfl h
theorem vRS_withdraw_41 {d : Nat} {M : xM} {Q : xQ} {a0 a1 a2 a3 : Int}
    (h : Q (xI (M (a0 + 3) 0)) M) :
    Ru (d + 1) kRS_withdraw 41 [xO 8 a0, xI a1, xI a2, xI a3] [] M Q := sx_ok cRS_withdraw 5 [5, 18, 22, 33, 41] rfl h
theorem vRS_range_0 {d : Nat} {M : xM} {Q : xQ} {a0 a1 a2 a3 a4 : Int}
    (h : Ru d kRS_unsigned 0 [xI a1] [] M (fun r N => Ru (d + 1) kRS_range 4 [xO 8 a0, xI a1, xI a2, xI a3, xI a4, xU, xU, xU, xU, xU] [r] N Q)) :
    Ru (d + 1) kRS_range 0 [xO 8 a0, xI a1, xI a2, xI a3, xI a4, xU, xU, xU, xU, xU] [] M Q := sx_ok cRS_range 3 [4, 8, 18, 29, 39, 43, 46, 55, 94, 127, 179, 182, 223] rfl h
theorem vRS_range_4 {d : Nat} {M : xM} {Q : xQ} {a0 a1 a2 a3 a4 s0 : Int}
    (h : Ru d kRS_unsigned 0 [xI a2] [] M (fun r N => Ru (d + 1) kRS_range 8 [xO 8 a0, xI a1, xI a2, xI a3, xI a4, xU, xU, xU, xU, xU] [r, xL s0] N Q)) :
    Ru (d + 1) kRS_range 4 [xO 8 a0, xI a1, xI a2, xI a3, xI a4, xU, xU, xU, xU, xU] [xL s0] M Q := sx_ok cRS_range 3 [4, 8, 18, 29, 39, 43, 46, 55, 94, 127, 179, 182, 223] rfl h
theorem vRS_range_8 {d : Nat} {M : xM} {Q : xQ} {a0 a1 a2 a3 a4 s0 s1 : Int}
    (h : (s0 < s1 → Q (xI (-1)) M) ∧ (¬ (s0 < s1) → Ru d kRS_isWay 0 [xI a3, xI a4] [] M (fun r N => Ru (d + 1) kRS_range 18 [xO 8 a0, xI a1, xI a2, xI a3, xI a4, xU, xU, xU, xU, xU] [r] N Q))) :
    Ru (d + 1) kRS_range 8 [xO 8 a0, xI a1, xI a2, xI a3, xI a4, xU, xU, xU, xU, xU] [xL s0, xL s1] M Q := sx_ok cRS_range 5 [4, 8, 18, 29, 39, 43, 46, 55, 94, 127, 179, 182, 223] rfl h
theorem vRS_range_18 {d : Nat} {M : xM} {Q : xQ} {a0 a1 a2 a3 a4 s0 : Int}
    (h : (¬ s0 = 0 → Ru d kRS_keyOf 0 [xI a3, xI a4] [] M (fun r N => Ru (d + 1) kRS_range 29 [xO 8 a0, xI a1, xI a2, xI a3, xI a4, xU, xU, xU, xU, xU] [r] N Q)) ∧ (¬ (¬ s0 = 0) → Q (xI (-1)) M)) :
    Ru (d + 1) kRS_range 18 [xO 8 a0, xI a1, xI a2, xI a3, xI a4, xU, xU, xU, xU, xU] [xI s0] M Q := sx_ok cRS_range 5 [4, 8, 18, 29, 39, 43, 46, 55, 94, 127, 179, 182, 223] rfl h
theorem vRS_range_29 {d : Nat} {M : xM} {Q : xQ} {a0 a1 a2 a3 a4 s0 : Int}
    (h : Ru d kRS_unsigned 0 [xI a1] [] M (fun r N => Ru (d + 1) kRS_range 39 [xO 8 a0, xI a1, xI a2, xI a3, xI a4, xI s0, xU, xU, xU, xU] [r, xO 4 (a0 + 111)] N Q)) :
    Ru (d + 1) kRS_range 29 [xO 8 a0, xI a1, xI a2, xI a3, xI a4, xU, xU, xU, xU, xU] [xI s0] M Q := sx_ok cRS_range 6 [4, 8, 18, 29, 39, 43, 46, 55, 94, 127, 179, 182, 223] rfl h
theorem vRS_range_39 {d : Nat} {M : xM} {Q : xQ} {a0 a1 a2 a3 a4 a5 s0 s1 : Int}
    (h : Ru d kRS_unsigned 0 [xI a2] [] M (fun r N => Ru (d + 1) kRS_range 43 [xO 8 a0, xI a1, xI a2, xI a3, xI a4, xI a5, xU, xU, xU, xU] [r, xL s0, xO 4 s1] N Q)) :
    Ru (d + 1) kRS_range 39 [xO 8 a0, xI a1, xI a2, xI a3, xI a4, xI a5, xU, xU, xU, xU] [xL s0, xO 4 s1] M Q := sx_ok cRS_range 3 [4, 8, 18, 29, 39, 43, 46, 55, 94, 127, 179, 182, 223] rfl h
theorem vRS_range_43 {d : Nat} {M : xM} {Q : xQ} {a0 a1 a2 a3 a4 a5 s0 s1 s2 : Int}
    (h : Ru d kPieces_cut 0 [xO 4 s2, xL s1, xU, xL s0, xU, xU, xU, xU] [] M (fun r N => Ru (d + 1) kRS_range 46 [xO 8 a0, xI a1, xI a2, xI a3, xI a4, xI a5, xU, xU, xU, xU] [] N Q)) :
    Ru (d + 1) kRS_range 43 [xO 8 a0, xI a1, xI a2, xI a3, xI a4, xI a5, xU, xU, xU, xU] [xL s0, xL s1, xO 4 s2] M Q := sx_ok cRS_range 2 [4, 8, 18, 29, 39, 43, 46, 55, 94, 127, 179, 182, 223] rfl h
theorem vRS_range_46 {d : Nat} {M : xM} {Q : xQ} {a0 a1 a2 a3 a4 a5 : Int}
    (h : Ru (d + 1) kRS_range 55 [xO 8 a0, xI a1, xI a2, xI a3, xI a4, xI a5, xI 0, xI 0, xI 0, xU] [] M Q) :
    Ru (d + 1) kRS_range 46 [xO 8 a0, xI a1, xI a2, xI a3, xI a4, xI a5, xU, xU, xU, xU] [] M Q := sx_ok cRS_range 7 [4, 8, 18, 29, 39, 43, 46, 55, 94, 127, 179, 182, 223] rfl h
theorem vRS_range_55 {d : Nat} {M : xM} {Q : xQ} {a0 a1 a2 a3 a4 a5 a6 a7 a8 : Int} {w9 : xV}
    (h : ((M (a0 + 111) 0) ≤ a8 → (¬ (z32 (a7 + a6)) = 0 → ((z32 ((M (a0 + 3) 0) + a7)) ≤ 60 → Ru d kRS_beginAct 0 [xO 8 a0] [] M (fun r N => Ru (d + 1) kRS_range 179 [xO 8 a0, xI a1, xI a2, xI a3, xI a4, xI a5, xI a6, xI a7, xI a8, w9] [] N Q)) ∧ (¬ ((z32 ((M (a0 + 3) 0) + a7)) ≤ 60) → Q (xI (-3)) M)) ∧ (¬ (¬ (z32 (a7 + a6)) = 0) → Q (xI (-2)) M)) ∧ (¬ ((M (a0 + 111) 0) ≤ a8) → (0 ≤ a8 ∧ a8 < 64) ∧ ((0 ≤ a8 ∧ a8 < 64) ∧ (Ru d kTable_find 0 [xO 6 (a0 + 3), xL (M (a0 + 111 + 1) a8), xU, xI (M (a0 + 111 + 2) a8), xU] [] M (fun r N => Ru (d + 1) kRS_range 94 [xO 8 a0, xI a1, xI a2, xI a3, xI a4, xI a5, xI a6, xI a7, xI a8, w9] [r] N Q))))) :
    Ru (d + 1) kRS_range 55 [xO 8 a0, xI a1, xI a2, xI a3, xI a4, xI a5, xI a6, xI a7, xI a8, w9] [] M Q := sx_ok cRS_range 19 [4, 8, 18, 29, 39, 43, 46, 55, 94, 127, 179, 182, 223] rfl h
theorem vRS_range_94 {d : Nat} {M : xM} {Q : xQ} {a0 a1 a2 a3 a4 a5 a6 a7 a8 s0 : Int} {w9 : xV}
    (h : (0 ≤ s0 → (s0 < 0 → Ru (d + 1) kRS_range 55 [xO 8 a0, xI a1, xI a2, xI a3, xI a4, xI a5, xI (z32 (a6 + 0)), xI (z32 (a7 + 0)), xI (z32 (a8 + 1)), xI s0] [] M Q) ∧ (¬ (s0 < 0) → Ru d kTable_keyOfRule 0 [xO 6 (a0 + 3), xI s0, xU] [] M (fun r N => Ru (d + 1) kRS_range 127 [xO 8 a0, xI a1, xI a2, xI a3, xI a4, xI a5, xI a6, xI (z32 (a7 + 0)), xI a8, xI s0] [r, xI a6] N Q))) ∧ (¬ (0 ≤ s0) → (s0 < 0 → Ru (d + 1) kRS_range 55 [xO 8 a0, xI a1, xI a2, xI a3, xI a4, xI a5, xI (z32 (a6 + 0)), xI (z32 (a7 + 1)), xI (z32 (a8 + 1)), xI s0] [] M Q) ∧ (¬ (s0 < 0) → Ru d kTable_keyOfRule 0 [xO 6 (a0 + 3), xI s0, xU] [] M (fun r N => Ru (d + 1) kRS_range 127 [xO 8 a0, xI a1, xI a2, xI a3, xI a4, xI a5, xI a6, xI (z32 (a7 + 1)), xI a8, xI s0] [r, xI a6] N Q)))) :
    Ru (d + 1) kRS_range 94 [xO 8 a0, xI a1, xI a2, xI a3, xI a4, xI a5, xI a6, xI a7, xI a8, w9] [xI s0] M Q := sx_ok cRS_range 17 [4, 8, 18, 29, 39, 43, 46, 55, 94, 127, 179, 182, 223] rfl h
theorem vRS_range_127 {d : Nat} {M : xM} {Q : xQ} {a0 a1 a2 a3 a4 a5 a6 a7 a8 a9 s0 s1 : Int}
    (h : (s0 = a5 → Ru (d + 1) kRS_range 55 [xO 8 a0, xI a1, xI a2, xI a3, xI a4, xI a5, xI (z32 (s1 + 0)), xI a7, xI (z32 (a8 + 1)), xI a9] [] M Q) ∧ (¬ (s0 = a5) → Ru (d + 1) kRS_range 55 [xO 8 a0, xI a1, xI a2, xI a3, xI a4, xI a5, xI (z32 (s1 + 1)), xI a7, xI (z32 (a8 + 1)), xI a9] [] M Q)) :
    Ru (d + 1) kRS_range 127 [xO 8 a0, xI a1, xI a2, xI a3, xI a4, xI a5, xI a6, xI a7, xI a8, xI a9] [xI s0, xI s1] M Q := sx_ok cRS_range 9 [4, 8, 18, 29, 39, 43, 46, 55, 94, 127, 179, 182, 223] rfl h
theorem vRS_range_179 {d : Nat} {M : xM} {Q : xQ} {a0 a1 a2 a3 a4 a5 a6 a7 a8 : Int} {w9 : xV}
    (h : Ru (d + 1) kRS_range 182 [xO 8 a0, xI a1, xI a2, xI a3, xI a4, xI a5, xI a6, xI a7, xI 0, w9] [] M Q) :
    Ru (d + 1) kRS_range 179 [xO 8 a0, xI a1, xI a2, xI a3, xI a4, xI a5, xI a6, xI a7, xI a8, w9] [] M Q := sx_ok cRS_range 3 [4, 8, 18, 29, 39, 43, 46, 55, 94, 127, 179, 182, 223] rfl h
theorem vRS_range_182 {d : Nat} {M : xM} {Q : xQ} {a0 a1 a2 a3 a4 a5 a6 a7 a8 : Int} {w9 : xV}
    (h : ((M (a0 + 111) 0) ≤ a8 → Q (xI (M (a0 + 111) 0)) M) ∧ (¬ ((M (a0 + 111) 0) ≤ a8) → (0 ≤ a8 ∧ a8 < 64) ∧ ((0 ≤ a8 ∧ a8 < 64) ∧ (Ru d kTable_put 0 [xO 6 (a0 + 3), xL (M (a0 + 111 + 1) a8), xU, xI (M (a0 + 111 + 2) a8), xI a5, xU] [] M (fun r N => Ru (d + 1) kRS_range 223 [xO 8 a0, xI a1, xI a2, xI a3, xI a4, xI a5, xI a6, xI a7, xI a8, w9] [r] N Q))))) :
    Ru (d + 1) kRS_range 182 [xO 8 a0, xI a1, xI a2, xI a3, xI a4, xI a5, xI a6, xI a7, xI a8, w9] [] M Q := sx_ok cRS_range 20 [4, 8, 18, 29, 39, 43, 46, 55, 94, 127, 179, 182, 223] rfl h
theorem vRS_range_223 {d : Nat} {M : xM} {Q : xQ} {a0 a1 a2 a3 a4 a5 a6 a7 a8 s0 : Int} {w9 : xV}
    (h : Ru (d + 1) kRS_range 182 [xO 8 a0, xI a1, xI a2, xI a3, xI a4, xI a5, xI a6, xI a7, xI (z32 (a8 + 1)), w9] [] M Q) :
    Ru (d + 1) kRS_range 223 [xO 8 a0, xI a1, xI a2, xI a3, xI a4, xI a5, xI a6, xI a7, xI a8, w9] [xI s0] M Q := sx_ok cRS_range 4 [4, 8, 18, 29, 39, 43, 46, 55, 94, 127, 179, 182, 223] rfl h
theorem vRS_strides_0 {d : Nat} {M : xM} {Q : xQ} {a0 a1 : Int}
    (h : Ru d kTable_takeStrides 0 [xO 6 (a0 + 10), xL a1, xU, xU, xU, xU, xU, xU] [] M (fun r N => Ru (d + 1) kRS_strides 8 [xO 8 a0, xL a1, xU] [r] N Q)) :
    Ru (d + 1) kRS_strides 0 [xO 8 a0, xL a1, xU] [] M Q := sx_ok cRS_strides 5 [8, 24, 34, 45] rfl h
theorem vRS_strides_8 {d : Nat} {M : xM} {Q : xQ} {a0 a1 s0 : Int}
    (h : (¬ s0 = 0 → Ru d kTable_hasStridesOf 0 [xO 6 (a0 + 3), xO 6 (a0 + 10), xU] [] M (fun r N => Ru (d + 1) kRS_strides 24 [xO 8 a0, xL a1, xU] [r] N Q)) ∧ (¬ (¬ s0 = 0) → Q (xI (-1)) M)) :
    Ru (d + 1) kRS_strides 8 [xO 8 a0, xL a1, xU] [xI s0] M Q := sx_ok cRS_strides 7 [8, 24, 34, 45] rfl h
theorem vRS_strides_24 {d : Nat} {M : xM} {Q : xQ} {a0 a1 s0 : Int}
    (h : (s0 = 0 → Ru d kRS_beginAct 0 [xO 8 a0] [] M (fun r N => Ru (d + 1) kRS_strides 34 [xO 8 a0, xL a1, xU] [] N Q)) ∧ (¬ (s0 = 0) → Q (xI (-2)) M)) :
    Ru (d + 1) kRS_strides 24 [xO 8 a0, xL a1, xU] [xI s0] M Q := sx_ok cRS_strides 4 [8, 24, 34, 45] rfl h
theorem vRS_strides_34 {d : Nat} {M : xM} {Q : xQ} {a0 a1 : Int}
    (h : Ru d kTable_copyStrides 0 [xO 6 (a0 + 3), xO 6 (a0 + 10), xU] [] M (fun r N => Ru (d + 1) kRS_strides 45 [xO 8 a0, xL a1, xU] [] N Q)) :
    Ru (d + 1) kRS_strides 34 [xO 8 a0, xL a1, xU] [] M Q := sx_ok cRS_strides 6 [8, 24, 34, 45] rfl h
theorem vRS_strides_45 {d : Nat} {M : xM} {Q : xQ} {a0 a1 : Int}
    (h : Q (xI (M (a0 + 3) 6)) M) :
    Ru (d + 1) kRS_strides 45 [xO 8 a0, xL a1, xU] [] M Q := sx_ok cRS_strides 5 [8, 24, 34, 45] rfl h
theorem vRS_gather_0 {d : Nat} {M : xM} {Q : xQ} {a0 : Int}
    (h : Ru d kRS_seeFewest 0 [xO 8 a0] [] M (fun r N => Ru (d + 1) kRS_gather 4 [xO 8 a0] [] N Q)) :
    Ru (d + 1) kRS_gather 0 [xO 8 a0] [] M Q := sx_ok cRS_gather 3 [4, 11, 28, 38, 49] rfl h
theorem vRS_gather_4 {d : Nat} {M : xM} {Q : xQ} {a0 : Int}
    (h : Ru d kFewest_hasNone 0 [xO 1 (a0 + 69), xU] [] M (fun r N => Ru (d + 1) kRS_gather 11 [xO 8 a0] [r] N Q)) :
    Ru (d + 1) kRS_gather 4 [xO 8 a0] [] M Q := sx_ok cRS_gather 4 [4, 11, 28, 38, 49] rfl h
theorem vRS_gather_11 {d : Nat} {M : xM} {Q : xQ} {a0 s0 : Int}
    (h : (s0 = 0 → Ru d kTable_hasRulesOf 0 [xO 6 (a0 + 3), xO 1 (a0 + 69), xU] [] M (fun r N => Ru (d + 1) kRS_gather 28 [xO 8 a0] [r] N Q)) ∧ (¬ (s0 = 0) → Q (xI (-2)) M)) :
    Ru (d + 1) kRS_gather 11 [xO 8 a0] [xI s0] M Q := sx_ok cRS_gather 7 [4, 11, 28, 38, 49] rfl h
theorem vRS_gather_28 {d : Nat} {M : xM} {Q : xQ} {a0 s0 : Int}
    (h : (s0 = 0 → Ru d kRS_beginAct 0 [xO 8 a0] [] M (fun r N => Ru (d + 1) kRS_gather 38 [xO 8 a0] [] N Q)) ∧ (¬ (s0 = 0) → Q (xI (-3)) M)) :
    Ru (d + 1) kRS_gather 28 [xO 8 a0] [xI s0] M Q := sx_ok cRS_gather 4 [4, 11, 28, 38, 49] rfl h
theorem vRS_gather_38 {d : Nat} {M : xM} {Q : xQ} {a0 : Int}
    (h : Ru d kTable_takeRules 0 [xO 6 (a0 + 3), xO 1 (a0 + 69), xU, xU] [] M (fun r N => Ru (d + 1) kRS_gather 49 [xO 8 a0] [] N Q)) :
    Ru (d + 1) kRS_gather 38 [xO 8 a0] [] M Q := sx_ok cRS_gather 6 [4, 11, 28, 38, 49] rfl h
theorem vRS_gather_49 {d : Nat} {M : xM} {Q : xQ} {a0 : Int}
    (h : Q (xI (M (a0 + 3) 0)) M) :
    Ru (d + 1) kRS_gather 49 [xO 8 a0] [] M Q := sx_ok cRS_gather 5 [4, 11, 28, 38, 49] rfl h
theorem vRS_undo_0 {d : Nat} {M : xM} {Q : xQ} {a0 : Int}
    (h : ((M a0 5) ≤ 0 → Q (xI (-1)) M) ∧ (¬ ((M a0 5) ≤ 0) → ((M a0 5) ≤ 10 → (0 ≤ ((up M a0 5 (z32 ((M a0 5) - 1))) a0 5) ∧ ((up M a0 5 (z32 ((M a0 5) - 1))) a0 5) < 10) ∧ (Ru d kTable_copyFrom 0 [xO 6 (a0 + 3), xO 6 ((up M a0 5 (z32 ((M a0 5) - 1))) (a0 + 17) ((up M a0 5 (z32 ((M a0 5) - 1))) a0 5)), xU] [] (up M a0 5 (z32 ((M a0 5) - 1))) (fun r N => Ru (d + 1) kRS_undo 44 [xO 8 a0] [] N Q))) ∧ (¬ ((M a0 5) ≤ 10) → Q (xI (-1)) M))) :
    Ru (d + 1) kRS_undo 0 [xO 8 a0] [] M Q := sx_ok cRS_undo 22 [44] rfl h
theorem vRS_undo_44 {d : Nat} {M : xM} {Q : xQ} {a0 : Int}
    (h : Q (xI ((up (up M a0 7 0) a0 8 0) a0 5)) (up (up M a0 7 0) a0 8 0)) :
    Ru (d + 1) kRS_undo 44 [xO 8 a0] [] M Q := sx_ok cRS_undo 10 [44] rfl h
theorem vRS_keep_0 {d : Nat} {M : xM} {Q : xQ} {a0 a1 : Int}
    (h : (a1 < 0 → Q (xI (-1)) M) ∧ (¬ (a1 < 0) → (a1 < 2 → (0 ≤ a1 ∧ a1 < 2) ∧ (Ru d kTable_copyFrom 0 [xO 6 (M (a0 + 18) a1), xO 6 (a0 + 3), xU] [] M (fun r N => Ru (d + 1) kRS_keep 24 [xO 8 a0, xI a1] [] N Q))) ∧ (¬ (a1 < 2) → Q (xI (-1)) M))) :
    Ru (d + 1) kRS_keep 0 [xO 8 a0, xI a1] [] M Q := sx_ok cRS_keep 13 [24] rfl h
theorem vRS_keep_24 {d : Nat} {M : xM} {Q : xQ} {a0 a1 : Int}
    (h : Q (xI ((up M a0 6 (ior (M a0 6) (ishl 1 a1))) (a0 + 3) 0)) (up M a0 6 (ior (M a0 6) (ishl 1 a1)))) :
    Ru (d + 1) kRS_keep 24 [xO 8 a0, xI a1] [] M Q := sx_ok cRS_keep 13 [24] rfl h
theorem vRS_back_0 {d : Nat} {M : xM} {Q : xQ} {a0 a1 : Int}
    (h : (a1 < 0 → Q (xI (-1)) M) ∧ (¬ (a1 < 0) → (a1 < 2 → Ru d kRS_isKept 0 [xO 8 a0, xI a1] [] M (fun r N => Ru (d + 1) kRS_back 16 [xO 8 a0, xI a1] [r] N Q)) ∧ (¬ (a1 < 2) → Q (xI (-1)) M))) :
    Ru (d + 1) kRS_back 0 [xO 8 a0, xI a1] [] M Q := sx_ok cRS_back 9 [16, 35, 39] rfl h
theorem vRS_back_16 {d : Nat} {M : xM} {Q : xQ} {a0 a1 s0 : Int}
    (h : (¬ s0 = 0 → (0 ≤ a1 ∧ a1 < 2) ∧ (Ru d kTable_copyFrom 0 [xO 6 (a0 + 3), xO 6 (M (a0 + 18) a1), xU] [] M (fun r N => Ru (d + 1) kRS_back 35 [xO 8 a0, xI a1] [] N Q))) ∧ (¬ (¬ s0 = 0) → Q (xI (-2)) M)) :
    Ru (d + 1) kRS_back 16 [xO 8 a0, xI a1] [xI s0] M Q := sx_ok cRS_back 9 [16, 35, 39] rfl h
theorem vRS_back_35 {d : Nat} {M : xM} {Q : xQ} {a0 a1 : Int}
    (h : Ru d kRS_forgetActs 0 [xO 8 a0] [] M (fun r N => Ru (d + 1) kRS_back 39 [xO 8 a0, xI a1] [] N Q)) :
    Ru (d + 1) kRS_back 35 [xO 8 a0, xI a1] [] M Q := sx_ok cRS_back 3 [16, 35, 39] rfl h
theorem vRS_back_39 {d : Nat} {M : xM} {Q : xQ} {a0 a1 : Int}
    (h : Q (xI (M (a0 + 3) 0)) M) :
    Ru (d + 1) kRS_back 39 [xO 8 a0, xI a1] [] M Q := sx_ok cRS_back 5 [16, 35, 39] rfl h
theorem vRS_look_0 {d : Nat} {M : xM} {Q : xQ} {a0 a1 a2 : Int}
    (h : Ru d kRS_unsigned 0 [xI a1] [] M (fun r N => Ru (d + 1) kRS_look 4 [xO 8 a0, xI a1, xI a2, xU, xU, xU] [r] N Q)) :
    Ru (d + 1) kRS_look 0 [xO 8 a0, xI a1, xI a2, xU, xU, xU] [] M Q := sx_ok cRS_look 3 [4, 28, 32, 45, 49, 57, 77] rfl h
theorem vRS_look_4 {d : Nat} {M : xM} {Q : xQ} {a0 a1 a2 s0 : Int}
    (h : (a2 = 0 → Ru d kTable_ruleOf 0 [xO 6 (a0 + 3), xL s0, xU, xU, xU] [] M (fun r N => Ru (d + 1) kRS_look 28 [xO 8 a0, xI a1, xI a2, xL s0, xU, xU] [r, xO 8 a0] N Q)) ∧ (¬ (a2 = 0) → (a2 = 1 → Ru d kTable_ruleOf 0 [xO 6 (a0 + 3), xL s0, xU, xU, xU] [] M (fun r N => Ru (d + 1) kRS_look 28 [xO 8 a0, xI a1, xI a2, xL s0, xU, xU] [r, xO 8 a0] N Q)) ∧ (¬ (a2 = 1) → (¬ a2 = 4 → (a2 = 2 → Ru (d + 1) kRS_look 45 [xO 8 a0, xI a1, xI a2, xL s0, xU, xU] [] M Q) ∧ (¬ (a2 = 2) → (a2 = 3 → Ru (d + 1) kRS_look 45 [xO 8 a0, xI a1, xI a2, xL s0, xU, xU] [] M Q) ∧ (¬ (a2 = 3) → Q (xI (-1)) M))) ∧ (¬ (¬ a2 = 4) → Ru d kTable_ruleOf 0 [xO 6 (a0 + 3), xL s0, xU, xU, xU] [] M (fun r N => Ru (d + 1) kRS_look 28 [xO 8 a0, xI a1, xI a2, xL s0, xU, xU] [r, xO 8 a0] N Q))))) :
    Ru (d + 1) kRS_look 4 [xO 8 a0, xI a1, xI a2, xU, xU, xU] [xL s0] M Q := sx_ok cRS_look 18 [4, 28, 32, 45, 49, 57, 77] rfl h
theorem vRS_look_28 {d : Nat} {M : xM} {Q : xQ} {a0 a1 a2 a3 s0 s1 : Int}
    (h : Ru d kRS_lookAtRules 0 [xO 8 s1, xI s0, xI a2, xU] [] M (fun r N => Ru (d + 1) kRS_look 32 [xO 8 a0, xI a1, xI a2, xL a3, xU, xU] [r] N Q)) :
    Ru (d + 1) kRS_look 28 [xO 8 a0, xI a1, xI a2, xL a3, xU, xU] [xI s0, xO 8 s1] M Q := sx_ok cRS_look 3 [4, 28, 32, 45, 49, 57, 77] rfl h
theorem vRS_look_32 {d : Nat} {M : xM} {Q : xQ} {a0 a1 a2 a3 s0 : Int}
    (h : Q (xI s0) M) :
    Ru (d + 1) kRS_look 32 [xO 8 a0, xI a1, xI a2, xL a3, xU, xU] [xI s0] M Q := sx_ok cRS_look 2 [4, 28, 32, 45, 49, 57, 77] rfl h
theorem vRS_look_45 {d : Nat} {M : xM} {Q : xQ} {a0 a1 a2 a3 : Int}
    (h : Ru d kRS_seeNodes 0 [xO 8 a0] [] M (fun r N => Ru (d + 1) kRS_look 49 [xO 8 a0, xI a1, xI a2, xL a3, xU, xU] [] N Q)) :
    Ru (d + 1) kRS_look 45 [xO 8 a0, xI a1, xI a2, xL a3, xU, xU] [] M Q := sx_ok cRS_look 3 [4, 28, 32, 45, 49, 57, 77] rfl h
theorem vRS_look_49 {d : Nat} {M : xM} {Q : xQ} {a0 a1 a2 a3 : Int}
    (h : Ru d kNodes_goTo 0 [xO 3 (a0 + 35), xL a3, xU, xU] [] M (fun r N => Ru (d + 1) kRS_look 57 [xO 8 a0, xI a1, xI a2, xL a3, xU, xU] [r] N Q)) :
    Ru (d + 1) kRS_look 49 [xO 8 a0, xI a1, xI a2, xL a3, xU, xU] [] M Q := sx_ok cRS_look 5 [4, 28, 32, 45, 49, 57, 77] rfl h
theorem vRS_look_57 {d : Nat} {M : xM} {Q : xQ} {a0 a1 a2 a3 s0 : Int}
    (h : (¬ a2 = 2 → Ru d kNodes_placeOf 0 [xO 3 (a0 + 35), xL a3, xU] [] M (fun r N => Ru (d + 1) kRS_look 77 [xO 8 a0, xI a1, xI a2, xL a3, xU, xI s0] [r] N Q)) ∧ (¬ (¬ a2 = 2) → Ru (d + 1) kRS_look 77 [xO 8 a0, xI a1, xI a2, xL a3, xU, xI s0] [xI s0] M Q)) :
    Ru (d + 1) kRS_look 57 [xO 8 a0, xI a1, xI a2, xL a3, xU, xU] [xI s0] M Q := sx_ok cRS_look 9 [4, 28, 32, 45, 49, 57, 77] rfl h
theorem vRS_look_77 {d : Nat} {M : xM} {Q : xQ} {a0 a1 a2 a3 a5 s0 : Int}
    (h : Q (xI s0) M) :
    Ru (d + 1) kRS_look 77 [xO 8 a0, xI a1, xI a2, xL a3, xU, xI a5] [xI s0] M Q := sx_ok cRS_look 2 [4, 28, 32, 45, 49, 57, 77] rfl h
theorem vRS_path_0 {d : Nat} {M : xM} {Q : xQ} {a0 a1 a2 : Int}
    (h : (0 ≤ a2 → Ru d kRS_seeNodes 0 [xO 8 a0] [] M (fun r N => Ru (d + 1) kRS_path 10 [xO 8 a0, xI a1, xI a2, xU] [] N Q)) ∧ (¬ (0 ≤ a2) → Q (xI (-1)) M)) :
    Ru (d + 1) kRS_path 0 [xO 8 a0, xI a1, xI a2, xU] [] M Q := sx_ok cRS_path 5 [10, 18, 21] rfl h
theorem vRS_path_10 {d : Nat} {M : xM} {Q : xQ} {a0 a1 a2 : Int}
    (h : Ru d kRS_unsigned 0 [xI a1] [] M (fun r N => Ru (d + 1) kRS_path 18 [xO 8 a0, xI a1, xI a2, xU] [r, xO 3 (a0 + 35)] N Q)) :
    Ru (d + 1) kRS_path 10 [xO 8 a0, xI a1, xI a2, xU] [] M Q := sx_ok cRS_path 5 [10, 18, 21] rfl h
theorem vRS_path_18 {d : Nat} {M : xM} {Q : xQ} {a0 a1 a2 s0 s1 : Int}
    (h : Ru d kNodes_goTo 0 [xO 3 s1, xL s0, xU, xU] [] M (fun r N => Ru (d + 1) kRS_path 21 [xO 8 a0, xI a1, xI a2, xU] [r] N Q)) :
    Ru (d + 1) kRS_path 18 [xO 8 a0, xI a1, xI a2, xU] [xL s0, xO 3 s1] M Q := sx_ok cRS_path 2 [10, 18, 21] rfl h
theorem vRS_path_21 {d : Nat} {M : xM} {Q : xQ} {a0 a1 a2 s0 : Int}
    (h : (s0 ≤ a2 → Q (xI (-2)) M) ∧ (¬ (s0 ≤ a2) → (0 ≤ a2 ∧ a2 < 16) ∧ (Q (xI (M (a0 + 35 + 7) a2)) M))) :
    Ru (d + 1) kRS_path 21 [xO 8 a0, xI a1, xI a2, xU] [xI s0] M Q := sx_ok cRS_path 12 [10, 18, 21] rfl h
theorem vRS_would_0 {d : Nat} {M : xM} {Q : xQ} {a0 a1 a2 a3 a4 : Int}
    (h : Ru d kRS_isBeginning 0 [xI a1, xI a2] [] M (fun r N => Ru (d + 1) kRS_would 5 [xO 8 a0, xI a1, xI a2, xI a3, xI a4, xU, xU] [r] N Q)) :
    Ru (d + 1) kRS_would 0 [xO 8 a0, xI a1, xI a2, xI a3, xI a4, xU, xU] [] M Q := sx_ok cRS_would 4 [5, 14, 25, 35, 67, 75, 81, 86, 94] rfl h
theorem vRS_would_5 {d : Nat} {M : xM} {Q : xQ} {a0 a1 a2 a3 a4 s0 : Int}
    (h : (s0 = 0 → Q (xI (-1)) M) ∧ (¬ (s0 = 0) → Ru d kRS_isWay 0 [xI a3, xI a4] [] M (fun r N => Ru (d + 1) kRS_would 14 [xO 8 a0, xI a1, xI a2, xI a3, xI a4, xU, xU] [r] N Q))) :
    Ru (d + 1) kRS_would 5 [xO 8 a0, xI a1, xI a2, xI a3, xI a4, xU, xU] [xI s0] M Q := sx_ok cRS_would 5 [5, 14, 25, 35, 67, 75, 81, 86, 94] rfl h
theorem vRS_would_14 {d : Nat} {M : xM} {Q : xQ} {a0 a1 a2 a3 a4 s0 : Int}
    (h : (¬ s0 = 0 → Ru d kRS_keyOf 0 [xI a3, xI a4] [] M (fun r N => Ru (d + 1) kRS_would 25 [xO 8 a0, xI a1, xI a2, xI a3, xI a4, xU, xU] [r] N Q)) ∧ (¬ (¬ s0 = 0) → Q (xI (-1)) M)) :
    Ru (d + 1) kRS_would 14 [xO 8 a0, xI a1, xI a2, xI a3, xI a4, xU, xU] [xI s0] M Q := sx_ok cRS_would 5 [5, 14, 25, 35, 67, 75, 81, 86, 94] rfl h
theorem vRS_would_25 {d : Nat} {M : xM} {Q : xQ} {a0 a1 a2 a3 a4 s0 : Int}
    (h : Ru d kRS_stateOf 0 [xO 8 a0, xI a1, xI a2, xI s0, xU] [] M (fun r N => Ru (d + 1) kRS_would 35 [xO 8 a0, xI a1, xI a2, xI a3, xI a4, xI s0, xU] [r] N Q)) :
    Ru (d + 1) kRS_would 25 [xO 8 a0, xI a1, xI a2, xI a3, xI a4, xU, xU] [xI s0] M Q := sx_ok cRS_would 7 [5, 14, 25, 35, 67, 75, 81, 86, 94] rfl h
theorem vRS_would_35 {d : Nat} {M : xM} {Q : xQ} {a0 a1 a2 a3 a4 a5 s0 : Int}
    (h : (s0 = 0 → Ru d kTable_copyFrom 0 [xO 6 (a0 + 10), xO 6 (a0 + 3), xU] [] M (fun r N => Ru (d + 1) kRS_would 67 [xO 8 a0, xI a1, xI a2, xI a3, xI a4, xI a5, xI s0] [] N Q)) ∧ (¬ (s0 = 0) → (¬ s0 = (-2) → Q (xI s0) M) ∧ (¬ (¬ s0 = (-2)) → Q (xI 0) M))) :
    Ru (d + 1) kRS_would 35 [xO 8 a0, xI a1, xI a2, xI a3, xI a4, xI a5, xU] [xI s0] M Q := sx_ok cRS_would 10 [5, 14, 25, 35, 67, 75, 81, 86, 94] rfl h
theorem vRS_would_67 {d : Nat} {M : xM} {Q : xQ} {a0 a1 a2 a3 a4 a5 a6 : Int}
    (h : Ru d kRS_unsigned 0 [xI a1] [] M (fun r N => Ru (d + 1) kRS_would 75 [xO 8 a0, xI a1, xI a2, xI a3, xI a4, xI a5, xI a6] [r, xO 6 (a0 + 10)] N Q)) :
    Ru (d + 1) kRS_would 67 [xO 8 a0, xI a1, xI a2, xI a3, xI a4, xI a5, xI a6] [] M Q := sx_ok cRS_would 5 [5, 14, 25, 35, 67, 75, 81, 86, 94] rfl h
theorem vRS_would_75 {d : Nat} {M : xM} {Q : xQ} {a0 a1 a2 a3 a4 a5 a6 s0 s1 : Int}
    (h : Ru d kTable_put 0 [xO 6 s1, xL s0, xU, xI a2, xI a5, xU] [] M (fun r N => Ru (d + 1) kRS_would 81 [xO 8 a0, xI a1, xI a2, xI a3, xI a4, xI a5, xI a6] [r] N Q)) :
    Ru (d + 1) kRS_would 75 [xO 8 a0, xI a1, xI a2, xI a3, xI a4, xI a5, xI a6] [xL s0, xO 6 s1] M Q := sx_ok cRS_would 4 [5, 14, 25, 35, 67, 75, 81, 86, 94] rfl h
theorem vRS_would_81 {d : Nat} {M : xM} {Q : xQ} {a0 a1 a2 a3 a4 a5 a6 s0 : Int}
    (h : Ru d kRS_seeNodes 0 [xO 8 a0] [] M (fun r N => Ru (d + 1) kRS_would 86 [xO 8 a0, xI a1, xI a2, xI a3, xI a4, xI a5, xI a6] [] N Q)) :
    Ru (d + 1) kRS_would 81 [xO 8 a0, xI a1, xI a2, xI a3, xI a4, xI a5, xI a6] [xI s0] M Q := sx_ok cRS_would 4 [5, 14, 25, 35, 67, 75, 81, 86, 94] rfl h
theorem vRS_would_86 {d : Nat} {M : xM} {Q : xQ} {a0 a1 a2 a3 a4 a5 a6 : Int}
    (h : Ru d kRS_touchedAgainst 0 [xO 8 a0, xO 6 (a0 + 10)] [] M (fun r N => Ru (d + 1) kRS_would 94 [xO 8 a0, xI a1, xI a2, xI a3, xI a4, xI a5, xI a6] [r] N Q)) :
    Ru (d + 1) kRS_would 86 [xO 8 a0, xI a1, xI a2, xI a3, xI a4, xI a5, xI a6] [] M Q := sx_ok cRS_would 5 [5, 14, 25, 35, 67, 75, 81, 86, 94] rfl h
theorem vRS_would_94 {d : Nat} {M : xM} {Q : xQ} {a0 a1 a2 a3 a4 a5 a6 s0 : Int}
    (h : Q (xI s0) M) :
    Ru (d + 1) kRS_would 94 [xO 8 a0, xI a1, xI a2, xI a3, xI a4, xI a5, xI a6] [xI s0] M Q := sx_ok cRS_would 2 [5, 14, 25, 35, 67, 75, 81, 86, 94] rfl h
theorem vRS_within_0 {d : Nat} {M : xM} {Q : xQ} {a0 a1 a2 a3 : Int}
    (h : Ru d kRS_isBeginning 0 [xI a1, xI a2] [] M (fun r N => Ru (d + 1) kRS_within 5 [xO 8 a0, xI a1, xI a2, xI a3, xU, xU, xU, xU] [r] N Q)) :
    Ru (d + 1) kRS_within 0 [xO 8 a0, xI a1, xI a2, xI a3, xU, xU, xU, xU] [] M Q := sx_ok cRS_within 4 [5, 19, 31, 43, 48] rfl h
theorem vRS_within_5 {d : Nat} {M : xM} {Q : xQ} {a0 a1 a2 a3 s0 : Int}
    (h : (s0 = 0 → Q (xI (-1)) M) ∧ (¬ (s0 = 0) → ((-1) ≤ a3 → Ru d kRS_unsigned 0 [xI a1] [] M (fun r N => Ru (d + 1) kRS_within 19 [xO 8 a0, xI a1, xI a2, xI a3, xU, xU, xU, xU] [r] N Q)) ∧ (¬ ((-1) ≤ a3) → Q (xI (-1)) M))) :
    Ru (d + 1) kRS_within 5 [xO 8 a0, xI a1, xI a2, xI a3, xU, xU, xU, xU] [xI s0] M Q := sx_ok cRS_within 7 [5, 19, 31, 43, 48] rfl h
theorem vRS_within_19 {d : Nat} {M : xM} {Q : xQ} {a0 a1 a2 a3 s0 : Int}
    (h : Ru d kTable_placeFor 0 [xO 6 (a0 + 3), xL s0, xU, xI a2, xU] [] M (fun r N => Ru (d + 1) kRS_within 31 [xO 8 a0, xI a1, xI a2, xI a3, xL s0, xU, xU, xU] [r] N Q)) :
    Ru (d + 1) kRS_within 19 [xO 8 a0, xI a1, xI a2, xI a3, xU, xU, xU, xU] [xL s0] M Q := sx_ok cRS_within 7 [5, 19, 31, 43, 48] rfl h
theorem vRS_within_31 {d : Nat} {M : xM} {Q : xQ} {a0 a1 a2 a3 a4 s0 : Int}
    (h : Ru d kRS_widthOf 0 [xI a2] [] M (fun r N => Ru (d + 1) kRS_within 43 [xO 8 a0, xI a1, xI a2, xI a3, xL a4, xU, xI s0, xU] [r, xL a4, xO 6 (a0 + 3)] N Q)) :
    Ru (d + 1) kRS_within 31 [xO 8 a0, xI a1, xI a2, xI a3, xL a4, xU, xU, xU] [xI s0] M Q := sx_ok cRS_within 7 [5, 19, 31, 43, 48] rfl h
theorem vRS_within_43 {d : Nat} {M : xM} {Q : xQ} {a0 a1 a2 a3 a4 a6 s0 s1 s2 : Int}
    (h : Ru d kTable_placeFor 0 [xO 6 s2, xL (z64 (s1 + s0)), xU, xI 0, xU] [] M (fun r N => Ru (d + 1) kRS_within 48 [xO 8 a0, xI a1, xI a2, xI a3, xL a4, xU, xI a6, xU] [r] N Q)) :
    Ru (d + 1) kRS_within 43 [xO 8 a0, xI a1, xI a2, xI a3, xL a4, xU, xI a6, xU] [xL s0, xL s1, xO 6 s2] M Q := sx_ok cRS_within 4 [5, 19, 31, 43, 48] rfl h
theorem vRS_within_48 {d : Nat} {M : xM} {Q : xQ} {a0 a1 a2 a3 a4 a6 s0 : Int}
    (h : (¬ a3 = (-1) → ((z32 (s0 - a6)) ≤ a3 → Q (xI (-2)) M) ∧ (¬ ((z32 (s0 - a6)) ≤ a3) → Q (xI (z32 (a6 + a3))) M)) ∧ (¬ (¬ a3 = (-1)) → Q (xI (z32 (s0 - a6))) M)) :
    Ru (d + 1) kRS_within 48 [xO 8 a0, xI a1, xI a2, xI a3, xL a4, xU, xI a6, xU] [xI s0] M Q := sx_ok cRS_within 15 [5, 19, 31, 43, 48] rfl h
theorem vRS_differs_0 {d : Nat} {M : xM} {Q : xQ} {a0 a1 a2 : Int}
    (h : (a1 < 0 → Q (xL (-1)) M) ∧ (¬ (a1 < 0) → (2 ≤ a1 → Q (xL (-1)) M) ∧ (¬ (2 ≤ a1) → Ru d kRS_isKept 0 [xO 8 a0, xI a1] [] M (fun r N => Ru (d + 1) kRS_differs 14 [xO 8 a0, xI a1, xI a2] [r] N Q)))) :
    Ru (d + 1) kRS_differs 0 [xO 8 a0, xI a1, xI a2] [] M Q := sx_ok cRS_differs 9 [14, 30, 34, 47, 68] rfl h
theorem vRS_differs_14 {d : Nat} {M : xM} {Q : xQ} {a0 a1 a2 s0 : Int}
    (h : (s0 = 0 → Q (xL (-1)) M) ∧ (¬ (s0 = 0) → (a2 = 0 → Ru (d + 1) kRS_differs 30 [xO 8 a0, xI a1, xI a2] [] M Q) ∧ (¬ (a2 = 0) → (a2 = 1 → Ru (d + 1) kRS_differs 30 [xO 8 a0, xI a1, xI a2] [] M Q) ∧ (¬ (a2 = 1) → Q (xL (-1)) M)))) :
    Ru (d + 1) kRS_differs 14 [xO 8 a0, xI a1, xI a2] [xI s0] M Q := sx_ok cRS_differs 9 [14, 30, 34, 47, 68] rfl h
theorem vRS_differs_30 {d : Nat} {M : xM} {Q : xQ} {a0 a1 a2 : Int}
    (h : Ru d kRS_seeSpans 0 [xO 8 a0] [] M (fun r N => Ru (d + 1) kRS_differs 34 [xO 8 a0, xI a1, xI a2] [] N Q)) :
    Ru (d + 1) kRS_differs 30 [xO 8 a0, xI a1, xI a2] [] M Q := sx_ok cRS_differs 3 [14, 30, 34, 47, 68] rfl h
theorem vRS_differs_34 {d : Nat} {M : xM} {Q : xQ} {a0 a1 a2 : Int}
    (h : (0 ≤ a1 ∧ a1 < 2) ∧ (Ru d kSpans_survey 0 [xO 5 (a0 + 27), xO 6 (M (a0 + 18) a1), xU] [] M (fun r N => Ru (d + 1) kRS_differs 47 [xO 8 a0, xI a1, xI a2] [] N Q))) :
    Ru (d + 1) kRS_differs 34 [xO 8 a0, xI a1, xI a2] [] M Q := sx_ok cRS_differs 8 [14, 30, 34, 47, 68] rfl h
theorem vRS_differs_47 {d : Nat} {M : xM} {Q : xQ} {a0 a1 a2 : Int}
    (h : (¬ a2 = 1 → Ru d kSpans_differing 0 [xO 5 (a0 + 19), xO 5 (a0 + 27), xI 0, xU, xU, xU, xU, xU, xU, xU, xU, xU, xU] [] M (fun r N => Ru (d + 1) kRS_differs 68 [xO 8 a0, xI a1, xI a2] [r] N Q)) ∧ (¬ (¬ a2 = 1) → Ru d kSpans_differing 0 [xO 5 (a0 + 19), xO 5 (a0 + 27), xI 1, xU, xU, xU, xU, xU, xU, xU, xU, xU, xU] [] M (fun r N => Ru (d + 1) kRS_differs 68 [xO 8 a0, xI a1, xI a2] [r] N Q))) :
    Ru (d + 1) kRS_differs 47 [xO 8 a0, xI a1, xI a2] [] M Q := sx_ok cRS_differs 11 [14, 30, 34, 47, 68] rfl h
theorem vRS_differs_68 {d : Nat} {M : xM} {Q : xQ} {a0 a1 a2 s0 : Int}
    (h : Q (xL s0) M) :
    Ru (d + 1) kRS_differs 68 [xO 8 a0, xI a1, xI a2] [xL s0] M Q := sx_ok cRS_differs 2 [14, 30, 34, 47, 68] rfl h
theorem vRS_rule_0 {d : Nat} {M : xM} {Q : xQ} {a0 a1 a2 : Int}
    (h : (a1 < 0 → (¬ a2 = 0 → Q (xI (-2)) M) ∧ (¬ (¬ a2 = 0) → Q (xI 0) M)) ∧ (¬ (a1 < 0) → (a1 < (M (a0 + 3) 0) → (a2 = 0 → (0 ≤ a1 ∧ a1 < 60) ∧ (Q (xI (z32 (M (a0 + 3 + 1) a1))) M)) ∧ (¬ a2 = 0 → (a2 = 1 → (0 ≤ a1 ∧ a1 < 60) ∧ (Q (xI (M (a0 + 3 + 2) a1)) M)) ∧ (¬ a2 = 1 → (a2 = 2 → (0 ≤ a1 ∧ a1 < 60) ∧ (Q (xI (M (a0 + 3 + 3) a1)) M)) ∧ (¬ a2 = 2 → (a2 = 3 → Ru d kRS_seeSpans 0 [xO 8 a0] [] M (fun r N => Ru (d + 1) kRS_rule 95 [xO 8 a0, xI a1, xI a2] [] N Q)) ∧ (¬ a2 = 3 → (a2 = 4 → Ru d kRS_seeSpans 0 [xO 8 a0] [] M (fun r N => Ru (d + 1) kRS_rule 119 [xO 8 a0, xI a1, xI a2] [] N Q)) ∧ (¬ a2 = 4 → Q (xI (-2)) M)))))) ∧ (¬ (a1 < (M (a0 + 3) 0)) → (¬ a2 = 0 → Q (xI (-2)) M) ∧ (¬ (¬ a2 = 0) → Q (xI 0) M)))) :
    Ru (d + 1) kRS_rule 0 [xO 8 a0, xI a1, xI a2] [] M Q := sx_ok cRS_rule 17 [95, 119] rfl h
theorem vRS_rule_95 {d : Nat} {M : xM} {Q : xQ} {a0 a1 a2 : Int}
    (h : (0 ≤ a1 ∧ a1 < 60) ∧ ((¬ (M (a0 + 19 + 5) a1) = 0 → Q (xI 0) M) ∧ (¬ (¬ (M (a0 + 19 + 5) a1) = 0) → Q (xI 1) M))) :
    Ru (d + 1) kRS_rule 95 [xO 8 a0, xI a1, xI a2] [] M Q := sx_ok cRS_rule 11 [95, 119] rfl h
theorem vRS_rule_119 {d : Nat} {M : xM} {Q : xQ} {a0 a1 a2 : Int}
    (h : (0 ≤ a1 ∧ a1 < 60) ∧ (Q (xI (M (a0 + 19 + 6) a1)) M)) :
    Ru (d + 1) kRS_rule 119 [xO 8 a0, xI a1, xI a2] [] M Q := sx_ok cRS_rule 7 [95, 119] rfl h
theorem vRS_served_0 {d : Nat} {M : xM} {Q : xQ} {a0 a1 : Int}
    (h : (a1 < 0 → Q (xL (-1)) M) ∧ (¬ (a1 < 0) → (a1 < (M (a0 + 3) 0) → Ru d kRS_seeSpans 0 [xO 8 a0] [] M (fun r N => Ru (d + 1) kRS_served 23 [xO 8 a0, xI a1] [] N Q)) ∧ (¬ (a1 < (M (a0 + 3) 0)) → Q (xL (-1)) M))) :
    Ru (d + 1) kRS_served 0 [xO 8 a0, xI a1] [] M Q := sx_ok cRS_served 10 [23] rfl h
theorem vRS_served_23 {d : Nat} {M : xM} {Q : xQ} {a0 a1 : Int}
    (h : (0 ≤ a1 ∧ a1 < 60) ∧ (Q (xL (M (a0 + 19 + 5) a1)) M)) :
    Ru (d + 1) kRS_served 23 [xO 8 a0, xI a1] [] M Q := sx_ok cRS_served 7 [23] rfl h
theorem vRS_hop_0 {d : Nat} {M : xM} {Q : xQ} {a0 a1 a2 : Int}
    (h : Ru d kTable_hasHop 0 [xO 6 (a0 + 3), xI a1] [] M (fun r N => Ru (d + 1) kRS_hop 8 [xO 8 a0, xI a1, xI a2] [r] N Q)) :
    Ru (d + 1) kRS_hop 0 [xO 8 a0, xI a1, xI a2] [] M Q := sx_ok cRS_hop 5 [8] rfl h
theorem vRS_hop_8 {d : Nat} {M : xM} {Q : xQ} {a0 a1 a2 s0 : Int}
    (h : (¬ s0 = 0 → (a2 = 0 → (0 ≤ a1 ∧ a1 < 60) ∧ (¬ (10 : Int) = 0 ∧ (Q (xI (idiv (M (a0 + 3 + 4) a1) 10)) M))) ∧ (¬ a2 = 0 → (a2 = 1 → (0 ≤ a1 ∧ a1 < 60) ∧ (¬ (10 : Int) = 0 ∧ (Q (xI (irem (M (a0 + 3 + 4) a1) 10)) M))) ∧ (¬ a2 = 1 → (a2 = 2 → (0 ≤ a1 ∧ a1 < 60) ∧ (Q (xI (M (a0 + 3 + 5) a1)) M)) ∧ (¬ a2 = 2 → Q (xI (-1)) M)))) ∧ (¬ (¬ s0 = 0) → Q (xI (-1)) M)) :
    Ru (d + 1) kRS_hop 8 [xO 8 a0, xI a1, xI a2] [xI s0] M Q := sx_ok cRS_hop 12 [8] rfl h
theorem vRS_reach_0 {d : Nat} {M : xM} {Q : xQ} {a0 a1 : Int}
    (h : (a1 = (-1) → Ru d kRS_seeSpans 0 [xO 8 a0] [] M (fun r N => Ru (d + 1) kRS_reach 24 [xO 8 a0, xI a1] [] N Q)) ∧ (¬ (a1 = (-1)) → Ru d kTable_hasHop 0 [xO 6 (a0 + 3), xI a1] [] M (fun r N => Ru (d + 1) kRS_reach 13 [xO 8 a0, xI a1] [r] N Q))) :
    Ru (d + 1) kRS_reach 0 [xO 8 a0, xI a1] [] M Q := sx_ok cRS_reach 8 [13, 24, 32] rfl h
theorem vRS_reach_13 {d : Nat} {M : xM} {Q : xQ} {a0 a1 s0 : Int}
    (h : (¬ s0 = 0 → Ru d kRS_seeSpans 0 [xO 8 a0] [] M (fun r N => Ru (d + 1) kRS_reach 24 [xO 8 a0, xI a1] [] N Q)) ∧ (¬ (¬ s0 = 0) → Q (xL (-2)) M)) :
    Ru (d + 1) kRS_reach 13 [xO 8 a0, xI a1] [xI s0] M Q := sx_ok cRS_reach 4 [13, 24, 32] rfl h
theorem vRS_reach_24 {d : Nat} {M : xM} {Q : xQ} {a0 a1 : Int}
    (h : Ru d kSpans_addressesWith 0 [xO 5 (a0 + 19), xI a1, xU, xU, xU] [] M (fun r N => Ru (d + 1) kRS_reach 32 [xO 8 a0, xI a1] [r] N Q)) :
    Ru (d + 1) kRS_reach 24 [xO 8 a0, xI a1] [] M Q := sx_ok cRS_reach 5 [13, 24, 32] rfl h
theorem vRS_reach_32 {d : Nat} {M : xM} {Q : xQ} {a0 a1 s0 : Int}
    (h : Q (xL s0) M) :
    Ru (d + 1) kRS_reach 32 [xO 8 a0, xI a1] [xL s0] M Q := sx_ok cRS_reach 2 [13, 24, 32] rfl h
theorem vRS_node_0 {d : Nat} {M : xM} {Q : xQ} {a0 a1 a2 : Int}
    (h : Ru d kRS_seeNodes 0 [xO 8 a0] [] M (fun r N => Ru (d + 1) kRS_node 4 [xO 8 a0, xI a1, xI a2] [] N Q)) :
    Ru (d + 1) kRS_node 0 [xO 8 a0, xI a1, xI a2] [] M Q := sx_ok cRS_node 3 [4, 12, 121] rfl h
theorem vRS_node_4 {d : Nat} {M : xM} {Q : xQ} {a0 a1 a2 : Int}
    (h : Ru d kNodes_has 0 [xO 3 (a0 + 35), xI a1] [] M (fun r N => Ru (d + 1) kRS_node 12 [xO 8 a0, xI a1, xI a2] [r] N Q)) :
    Ru (d + 1) kRS_node 4 [xO 8 a0, xI a1, xI a2] [] M Q := sx_ok cRS_node 5 [4, 12, 121] rfl h
theorem vRS_node_12 {d : Nat} {M : xM} {Q : xQ} {a0 a1 a2 s0 : Int}
    (h : (¬ s0 = 0 → (a2 = 0 → (0 ≤ a1 ∧ a1 < 901) ∧ (Q (xL (M (a0 + 35 + 3) a1)) M)) ∧ (¬ a2 = 0 → (a2 = 1 → (0 ≤ a1 ∧ a1 < 901) ∧ (Q (xL (M (a0 + 35 + 4) a1)) M)) ∧ (¬ a2 = 1 → (a2 = 2 → (0 ≤ a1 ∧ a1 < 901) ∧ (Q (xL (M (a0 + 35 + 2) a1)) M)) ∧ (¬ a2 = 2 → (a2 = 3 → (0 ≤ a1 ∧ a1 < 901) ∧ (Q (xL (M (a0 + 35 + 1) a1)) M)) ∧ (¬ a2 = 3 → (a2 = 4 → Ru d kNodes_storedBy 0 [xO 3 (a0 + 35), xI a1] [] M (fun r N => Ru (d + 1) kRS_node 121 [xO 8 a0, xI a1, xI a2] [r] N Q)) ∧ (¬ a2 = 4 → (a2 = 5 → (0 ≤ a1 ∧ a1 < 901) ∧ (Q (xL (M (a0 + 35 + 5) a1)) M)) ∧ (¬ a2 = 5 → Q (xL (-2)) M))))))) ∧ (¬ (¬ s0 = 0) → (a2 = 0 → Q (xL 0) M) ∧ (¬ (a2 = 0) → (¬ a2 = 1 → Q (xL (-2)) M) ∧ (¬ (¬ a2 = 1) → Q (xL 0) M)))) :
    Ru (d + 1) kRS_node 12 [xO 8 a0, xI a1, xI a2] [xI s0] M Q := sx_ok cRS_node 11 [4, 12, 121] rfl h
theorem vRS_node_121 {d : Nat} {M : xM} {Q : xQ} {a0 a1 a2 s0 : Int}
    (h : Q (xL s0) M) :
    Ru (d + 1) kRS_node 121 [xO 8 a0, xI a1, xI a2] [xI s0] M Q := sx_ok cRS_node 3 [4, 12, 121] rfl h
theorem vRS_stored_0 {d : Nat} {M : xM} {Q : xQ} {a0 a1 a2 : Int}
    (h : Ru d kRS_seeNodes 0 [xO 8 a0] [] M (fun r N => Ru (d + 1) kRS_stored 4 [xO 8 a0, xI a1, xI a2] [] N Q)) :
    Ru (d + 1) kRS_stored 0 [xO 8 a0, xI a1, xI a2] [] M Q := sx_ok cRS_stored 3 [4, 13] rfl h
theorem vRS_stored_4 {d : Nat} {M : xM} {Q : xQ} {a0 a1 a2 : Int}
    (h : Ru d kNodes_storedAt 0 [xO 3 (a0 + 35), xI a1, xI a2] [] M (fun r N => Ru (d + 1) kRS_stored 13 [xO 8 a0, xI a1, xI a2] [r] N Q)) :
    Ru (d + 1) kRS_stored 4 [xO 8 a0, xI a1, xI a2] [] M Q := sx_ok cRS_stored 6 [4, 13] rfl h
theorem vRS_stored_13 {d : Nat} {M : xM} {Q : xQ} {a0 a1 a2 s0 : Int}
    (h : Q (xI s0) M) :
    Ru (d + 1) kRS_stored 13 [xO 8 a0, xI a1, xI a2] [xI s0] M Q := sx_ok cRS_stored 2 [4, 13] rfl h
theorem vRS_slot_0 {d : Nat} {M : xM} {Q : xQ} {a0 a1 a2 a3 : Int}
    (h : Ru d kRS_seeNodes 0 [xO 8 a0] [] M (fun r N => Ru (d + 1) kRS_slot 4 [xO 8 a0, xI a1, xI a2, xI a3, xU] [] N Q)) :
    Ru (d + 1) kRS_slot 0 [xO 8 a0, xI a1, xI a2, xI a3, xU] [] M Q := sx_ok cRS_slot 3 [4, 12, 28, 43, 52, 80] rfl h
theorem vRS_slot_4 {d : Nat} {M : xM} {Q : xQ} {a0 a1 a2 a3 : Int}
    (h : Ru d kNodes_has 0 [xO 3 (a0 + 35), xI a1] [] M (fun r N => Ru (d + 1) kRS_slot 12 [xO 8 a0, xI a1, xI a2, xI a3, xU] [r] N Q)) :
    Ru (d + 1) kRS_slot 4 [xO 8 a0, xI a1, xI a2, xI a3, xU] [] M Q := sx_ok cRS_slot 5 [4, 12, 28, 43, 52, 80] rfl h
theorem vRS_slot_12 {d : Nat} {M : xM} {Q : xQ} {a0 a1 a2 a3 s0 : Int}
    (h : (s0 = 0 → Q (xI (-3)) M) ∧ (¬ (s0 = 0) → (a2 < 0 → Q (xI (-3)) M) ∧ (¬ (a2 < 0) → Ru d kNodes_slotsOf 0 [xO 3 (a0 + 35), xI a1] [] M (fun r N => Ru (d + 1) kRS_slot 28 [xO 8 a0, xI a1, xI a2, xI a3, xU] [r, xI a2] N Q)))) :
    Ru (d + 1) kRS_slot 12 [xO 8 a0, xI a1, xI a2, xI a3, xU] [xI s0] M Q := sx_ok cRS_slot 9 [4, 12, 28, 43, 52, 80] rfl h
theorem vRS_slot_28 {d : Nat} {M : xM} {Q : xQ} {a0 a1 a2 a3 s0 s1 : Int}
    (h : (s0 ≤ s1 → Q (xI (-3)) M) ∧ (¬ (s0 ≤ s1) → (a3 = 0 → Ru (d + 1) kRS_slot 43 [xO 8 a0, xI a1, xI a2, xI a3, xU] [] M Q) ∧ (¬ (a3 = 0) → (a3 = 1 → Ru (d + 1) kRS_slot 43 [xO 8 a0, xI a1, xI a2, xI a3, xU] [] M Q) ∧ (¬ (a3 = 1) → Q (xI (-3)) M)))) :
    Ru (d + 1) kRS_slot 28 [xO 8 a0, xI a1, xI a2, xI a3, xU] [xI s0, xI s1] M Q := sx_ok cRS_slot 9 [4, 12, 28, 43, 52, 80] rfl h
theorem vRS_slot_43 {d : Nat} {M : xM} {Q : xQ} {a0 a1 a2 a3 : Int}
    (h : Ru d kNodes_childAt 0 [xO 3 (a0 + 35), xI a1, xI a2] [] M (fun r N => Ru (d + 1) kRS_slot 52 [xO 8 a0, xI a1, xI a2, xI a3, xU] [r] N Q)) :
    Ru (d + 1) kRS_slot 43 [xO 8 a0, xI a1, xI a2, xI a3, xU] [] M Q := sx_ok cRS_slot 6 [4, 12, 28, 43, 52, 80] rfl h
theorem vRS_slot_52 {d : Nat} {M : xM} {Q : xQ} {a0 a1 a2 a3 s0 : Int}
    (h : (¬ a3 = 0 → (s0 < 0 → Ru d kNodes_leafHop 0 [xO 3 (a0 + 35), xI a1, xI a2, xU] [] M (fun r N => Ru (d + 1) kRS_slot 80 [xO 8 a0, xI a1, xI a2, xI a3, xI s0] [r] N Q)) ∧ (¬ (s0 < 0) → Ru (d + 1) kRS_slot 80 [xO 8 a0, xI a1, xI a2, xI a3, xI s0] [xI (-2)] M Q)) ∧ (¬ (¬ a3 = 0) → Q (xI s0) M)) :
    Ru (d + 1) kRS_slot 52 [xO 8 a0, xI a1, xI a2, xI a3, xU] [xI s0] M Q := sx_ok cRS_slot 11 [4, 12, 28, 43, 52, 80] rfl h
theorem vRS_slot_80 {d : Nat} {M : xM} {Q : xQ} {a0 a1 a2 a3 a4 s0 : Int}
    (h : Q (xI s0) M) :
    Ru (d + 1) kRS_slot 80 [xO 8 a0, xI a1, xI a2, xI a3, xI a4] [xI s0] M Q := sx_ok cRS_slot 2 [4, 12, 28, 43, 52, 80] rfl h
theorem vRS_alike_0 {d : Nat} {M : xM} {Q : xQ} {a0 a1 a2 : Int}
    (h : Ru d kRS_seeNodes 0 [xO 8 a0] [] M (fun r N => Ru (d + 1) kRS_alike 4 [xO 8 a0, xI a1, xI a2] [] N Q)) :
    Ru (d + 1) kRS_alike 0 [xO 8 a0, xI a1, xI a2] [] M Q := sx_ok cRS_alike 3 [4, 12, 23, 53] rfl h
theorem vRS_alike_4 {d : Nat} {M : xM} {Q : xQ} {a0 a1 a2 : Int}
    (h : Ru d kNodes_has 0 [xO 3 (a0 + 35), xI a1] [] M (fun r N => Ru (d + 1) kRS_alike 12 [xO 8 a0, xI a1, xI a2] [r] N Q)) :
    Ru (d + 1) kRS_alike 4 [xO 8 a0, xI a1, xI a2] [] M Q := sx_ok cRS_alike 5 [4, 12, 23, 53] rfl h
theorem vRS_alike_12 {d : Nat} {M : xM} {Q : xQ} {a0 a1 a2 s0 : Int}
    (h : (s0 = 0 → Q (xI (-1)) M) ∧ (¬ (s0 = 0) → Ru d kNodes_has 0 [xO 3 (a0 + 35), xI a2] [] M (fun r N => Ru (d + 1) kRS_alike 23 [xO 8 a0, xI a1, xI a2] [r] N Q))) :
    Ru (d + 1) kRS_alike 12 [xO 8 a0, xI a1, xI a2] [xI s0] M Q := sx_ok cRS_alike 6 [4, 12, 23, 53] rfl h
theorem vRS_alike_23 {d : Nat} {M : xM} {Q : xQ} {a0 a1 a2 s0 : Int}
    (h : (s0 = 0 → Q (xI (-1)) M) ∧ (¬ (s0 = 0) → (0 ≤ a1 ∧ a1 < 901) ∧ ((0 ≤ a2 ∧ a2 < 901) ∧ (((M (a0 + 35 + 2) a1) = (M (a0 + 35 + 2) a2) → Ru d kRS_seeKinds 0 [xO 8 a0] [] M (fun r N => Ru (d + 1) kRS_alike 53 [xO 8 a0, xI a1, xI a2] [] N Q)) ∧ (¬ ((M (a0 + 35 + 2) a1) = (M (a0 + 35 + 2) a2)) → Q (xI (-1)) M))))) :
    Ru (d + 1) kRS_alike 23 [xO 8 a0, xI a1, xI a2] [xI s0] M Q := sx_ok cRS_alike 15 [4, 12, 23, 53] rfl h
theorem vRS_alike_53 {d : Nat} {M : xM} {Q : xQ} {a0 a1 a2 : Int}
    (h : (0 ≤ a1 ∧ a1 < 901) ∧ ((0 ≤ a2 ∧ a2 < 901) ∧ ((¬ (M (a0 + 65 + 1) a1) = (M (a0 + 65 + 1) a2) → Q (xI 0) M) ∧ (¬ (¬ (M (a0 + 65 + 1) a1) = (M (a0 + 65 + 1) a2)) → Q (xI 1) M)))) :
    Ru (d + 1) kRS_alike 53 [xO 8 a0, xI a1, xI a2] [] M Q := sx_ok cRS_alike 15 [4, 12, 23, 53] rfl h
theorem vRS_level_0 {d : Nat} {M : xM} {Q : xQ} {a0 a1 a2 : Int}
    (h : (a1 < 0 → Q (xI (-1)) M) ∧ (¬ (a1 < 0) → (a1 < (M (a0 + 3) 6) → Ru d kRS_seeNodes 0 [xO 8 a0] [] M (fun r N => Ru (d + 1) kRS_level 21 [xO 8 a0, xI a1, xI a2] [] N Q)) ∧ (¬ (a1 < (M (a0 + 3) 6)) → Q (xI (-1)) M))) :
    Ru (d + 1) kRS_level 0 [xO 8 a0, xI a1, xI a2] [] M Q := sx_ok cRS_level 10 [21, 70, 78, 92, 100, 103, 108, 120, 128, 131] rfl h
theorem vRS_level_21 {d : Nat} {M : xM} {Q : xQ} {a0 a1 a2 : Int}
    (h : (a2 = 0 → (0 ≤ a1 ∧ a1 < 16) ∧ (Q (xI (M (a0 + 3 + 6) a1)) M)) ∧ (¬ a2 = 0 → (a2 = 1 → Ru d kNodes_behindLevel 0 [xO 3 (a0 + 35), xI a1] [] M (fun r N => Ru (d + 1) kRS_level 70 [xO 8 a0, xI a1, xI a2] [r] N Q)) ∧ (¬ a2 = 1 → (a2 = 2 → Ru d kNodes_startOfLevel 0 [xO 3 (a0 + 35), xI a1] [] M (fun r N => Ru (d + 1) kRS_level 92 [xO 8 a0, xI a1, xI a2] [r, xO 3 (a0 + 35)] N Q)) ∧ (¬ a2 = 2 → (a2 = 3 → Ru d kRS_seeKinds 0 [xO 8 a0] [] M (fun r N => Ru (d + 1) kRS_level 108 [xO 8 a0, xI a1, xI a2] [] N Q)) ∧ (¬ a2 = 3 → Q (xI (-1)) M))))) :
    Ru (d + 1) kRS_level 21 [xO 8 a0, xI a1, xI a2] [] M Q := sx_ok cRS_level 9 [21, 70, 78, 92, 100, 103, 108, 120, 128, 131] rfl h
theorem vRS_level_70 {d : Nat} {M : xM} {Q : xQ} {a0 a1 a2 s0 : Int}
    (h : Ru d kNodes_startOfLevel 0 [xO 3 (a0 + 35), xI a1] [] M (fun r N => Ru (d + 1) kRS_level 78 [xO 8 a0, xI a1, xI a2] [r, xI s0] N Q)) :
    Ru (d + 1) kRS_level 70 [xO 8 a0, xI a1, xI a2] [xI s0] M Q := sx_ok cRS_level 5 [21, 70, 78, 92, 100, 103, 108, 120, 128, 131] rfl h
theorem vRS_level_78 {d : Nat} {M : xM} {Q : xQ} {a0 a1 a2 s0 s1 : Int}
    (h : Q (xI (z32 (s1 - s0))) M) :
    Ru (d + 1) kRS_level 78 [xO 8 a0, xI a1, xI a2] [xI s0, xI s1] M Q := sx_ok cRS_level 3 [21, 70, 78, 92, 100, 103, 108, 120, 128, 131] rfl h
theorem vRS_level_92 {d : Nat} {M : xM} {Q : xQ} {a0 a1 a2 s0 s1 : Int}
    (h : Ru d kNodes_behindLevel 0 [xO 3 (a0 + 35), xI a1] [] M (fun r N => Ru (d + 1) kRS_level 100 [xO 8 a0, xI a1, xI a2] [r, xI s0, xO 3 s1] N Q)) :
    Ru (d + 1) kRS_level 92 [xO 8 a0, xI a1, xI a2] [xI s0, xO 3 s1] M Q := sx_ok cRS_level 5 [21, 70, 78, 92, 100, 103, 108, 120, 128, 131] rfl h
theorem vRS_level_100 {d : Nat} {M : xM} {Q : xQ} {a0 a1 a2 s0 s1 s2 : Int}
    (h : Ru d kNodes_storedIn 0 [xO 3 s2, xI s1, xI s0] [] M (fun r N => Ru (d + 1) kRS_level 103 [xO 8 a0, xI a1, xI a2] [r] N Q)) :
    Ru (d + 1) kRS_level 100 [xO 8 a0, xI a1, xI a2] [xI s0, xI s1, xO 3 s2] M Q := sx_ok cRS_level 2 [21, 70, 78, 92, 100, 103, 108, 120, 128, 131] rfl h
theorem vRS_level_103 {d : Nat} {M : xM} {Q : xQ} {a0 a1 a2 s0 : Int}
    (h : Q (xI s0) M) :
    Ru (d + 1) kRS_level 103 [xO 8 a0, xI a1, xI a2] [xI s0] M Q := sx_ok cRS_level 2 [21, 70, 78, 92, 100, 103, 108, 120, 128, 131] rfl h
theorem vRS_level_108 {d : Nat} {M : xM} {Q : xQ} {a0 a1 a2 : Int}
    (h : Ru d kNodes_startOfLevel 0 [xO 3 (a0 + 35), xI a1] [] M (fun r N => Ru (d + 1) kRS_level 120 [xO 8 a0, xI a1, xI a2] [r, xO 2 (a0 + 65)] N Q)) :
    Ru (d + 1) kRS_level 108 [xO 8 a0, xI a1, xI a2] [] M Q := sx_ok cRS_level 7 [21, 70, 78, 92, 100, 103, 108, 120, 128, 131] rfl h
theorem vRS_level_120 {d : Nat} {M : xM} {Q : xQ} {a0 a1 a2 s0 s1 : Int}
    (h : Ru d kNodes_behindLevel 0 [xO 3 (a0 + 35), xI a1] [] M (fun r N => Ru (d + 1) kRS_level 128 [xO 8 a0, xI a1, xI a2] [r, xI s0, xO 2 s1] N Q)) :
    Ru (d + 1) kRS_level 120 [xO 8 a0, xI a1, xI a2] [xI s0, xO 2 s1] M Q := sx_ok cRS_level 5 [21, 70, 78, 92, 100, 103, 108, 120, 128, 131] rfl h
theorem vRS_level_128 {d : Nat} {M : xM} {Q : xQ} {a0 a1 a2 s0 s1 s2 : Int}
    (h : Ru d kKinds_unlikeIn 0 [xO 2 s2, xI s1, xI s0, xU, xU] [] M (fun r N => Ru (d + 1) kRS_level 131 [xO 8 a0, xI a1, xI a2] [r] N Q)) :
    Ru (d + 1) kRS_level 128 [xO 8 a0, xI a1, xI a2] [xI s0, xI s1, xO 2 s2] M Q := sx_ok cRS_level 2 [21, 70, 78, 92, 100, 103, 108, 120, 128, 131] rfl h
theorem vRS_level_131 {d : Nat} {M : xM} {Q : xQ} {a0 a1 a2 s0 : Int}
    (h : Q (xI s0) M) :
    Ru (d + 1) kRS_level 131 [xO 8 a0, xI a1, xI a2] [xI s0] M Q := sx_ok cRS_level 2 [21, 70, 78, 92, 100, 103, 108, 120, 128, 131] rfl h
theorem vRS_span_0 {d : Nat} {M : xM} {Q : xQ} {a0 a1 a2 : Int}
    (h : Ru d kRS_seeSpans 0 [xO 8 a0] [] M (fun r N => Ru (d + 1) kRS_span 4 [xO 8 a0, xI a1, xI a2] [] N Q)) :
    Ru (d + 1) kRS_span 0 [xO 8 a0, xI a1, xI a2] [] M Q := sx_ok cRS_span 3 [4] rfl h
theorem vRS_span_4 {d : Nat} {M : xM} {Q : xQ} {a0 a1 a2 : Int}
    (h : (a1 < 0 → Q (xL (-2)) M) ∧ (¬ (a1 < 0) → (a1 < (M (a0 + 19) 0) → (a2 = 0 → (0 ≤ a1 ∧ a1 < 121) ∧ (Q (xL (M (a0 + 19 + 1) a1)) M)) ∧ (¬ a2 = 0 → (a2 = 1 → (0 ≤ a1 ∧ a1 < 121) ∧ (Q (xL (M (a0 + 19 + 2) a1)) M)) ∧ (¬ a2 = 1 → (a2 = 2 → (0 ≤ a1 ∧ a1 < 121) ∧ (Q (xL (M (a0 + 19 + 3) a1)) M)) ∧ (¬ a2 = 2 → Q (xL (-2)) M)))) ∧ (¬ (a1 < (M (a0 + 19) 0)) → Q (xL (-2)) M))) :
    Ru (d + 1) kRS_span 4 [xO 8 a0, xI a1, xI a2] [] M Q := sx_ok cRS_span 17 [4] rfl h
theorem vRS_cover_0 {d : Nat} {M : xM} {Q : xQ} {a0 a1 a2 a3 a4 : Int}
    (h : Ru d kRS_unsigned 0 [xI a1] [] M (fun r N => Ru (d + 1) kRS_cover 4 [xO 8 a0, xI a1, xI a2, xI a3, xI a4] [r] N Q)) :
    Ru (d + 1) kRS_cover 0 [xO 8 a0, xI a1, xI a2, xI a3, xI a4] [] M Q := sx_ok cRS_cover 3 [4, 8, 24, 28, 31, 60] rfl h
theorem vRS_cover_4 {d : Nat} {M : xM} {Q : xQ} {a0 a1 a2 a3 a4 s0 : Int}
    (h : Ru d kRS_unsigned 0 [xI a2] [] M (fun r N => Ru (d + 1) kRS_cover 8 [xO 8 a0, xI a1, xI a2, xI a3, xI a4] [r, xL s0] N Q)) :
    Ru (d + 1) kRS_cover 4 [xO 8 a0, xI a1, xI a2, xI a3, xI a4] [xL s0] M Q := sx_ok cRS_cover 3 [4, 8, 24, 28, 31, 60] rfl h
theorem vRS_cover_8 {d : Nat} {M : xM} {Q : xQ} {a0 a1 a2 a3 a4 s0 s1 : Int}
    (h : (s1 ≤ s0 → Ru d kRS_unsigned 0 [xI a1] [] M (fun r N => Ru (d + 1) kRS_cover 24 [xO 8 a0, xI a1, xI a2, xI a3, xI a4] [r, xO 4 (a0 + 111)] N Q)) ∧ (¬ (s1 ≤ s0) → Q (xL (-2)) M)) :
    Ru (d + 1) kRS_cover 8 [xO 8 a0, xI a1, xI a2, xI a3, xI a4] [xL s0, xL s1] M Q := sx_ok cRS_cover 6 [4, 8, 24, 28, 31, 60] rfl h
theorem vRS_cover_24 {d : Nat} {M : xM} {Q : xQ} {a0 a1 a2 a3 a4 s0 s1 : Int}
    (h : Ru d kRS_unsigned 0 [xI a2] [] M (fun r N => Ru (d + 1) kRS_cover 28 [xO 8 a0, xI a1, xI a2, xI a3, xI a4] [r, xL s0, xO 4 s1] N Q)) :
    Ru (d + 1) kRS_cover 24 [xO 8 a0, xI a1, xI a2, xI a3, xI a4] [xL s0, xO 4 s1] M Q := sx_ok cRS_cover 3 [4, 8, 24, 28, 31, 60] rfl h
theorem vRS_cover_28 {d : Nat} {M : xM} {Q : xQ} {a0 a1 a2 a3 a4 s0 s1 s2 : Int}
    (h : Ru d kPieces_cut 0 [xO 4 s2, xL s1, xU, xL s0, xU, xU, xU, xU] [] M (fun r N => Ru (d + 1) kRS_cover 31 [xO 8 a0, xI a1, xI a2, xI a3, xI a4] [] N Q)) :
    Ru (d + 1) kRS_cover 28 [xO 8 a0, xI a1, xI a2, xI a3, xI a4] [xL s0, xL s1, xO 4 s2] M Q := sx_ok cRS_cover 2 [4, 8, 24, 28, 31, 60] rfl h
theorem vRS_cover_31 {d : Nat} {M : xM} {Q : xQ} {a0 a1 a2 a3 a4 : Int}
    (h : (¬ a3 = (-1) → Ru d kPieces_tellOf 0 [xO 4 (a0 + 111), xI a3, xI a4] [] M (fun r N => Ru (d + 1) kRS_cover 60 [xO 8 a0, xI a1, xI a2, xI a3, xI a4] [r] N Q)) ∧ (¬ (¬ a3 = (-1)) → (¬ a4 = 0 → Ru d kPieces_tellOf 0 [xO 4 (a0 + 111), xI a3, xI a4] [] M (fun r N => Ru (d + 1) kRS_cover 60 [xO 8 a0, xI a1, xI a2, xI a3, xI a4] [r] N Q)) ∧ (¬ (¬ a4 = 0) → Q (xL (M (a0 + 111) 0)) M))) :
    Ru (d + 1) kRS_cover 31 [xO 8 a0, xI a1, xI a2, xI a3, xI a4] [] M Q := sx_ok cRS_cover 11 [4, 8, 24, 28, 31, 60] rfl h
theorem vRS_cover_60 {d : Nat} {M : xM} {Q : xQ} {a0 a1 a2 a3 a4 s0 : Int}
    (h : Q (xL s0) M) :
    Ru (d + 1) kRS_cover 60 [xO 8 a0, xI a1, xI a2, xI a3, xI a4] [xL s0] M Q := sx_ok cRS_cover 2 [4, 8, 24, 28, 31, 60] rfl h
theorem vRS_own_0 {d : Nat} {M : xM} {Q : xQ} {a0 a1 a2 a3 : Int}
    (h : (a1 = (-1) → ((-1) ≤ a2 → Ru d kRS_seeSpans 0 [xO 8 a0] [] M (fun r N => Ru (d + 1) kRS_own 29 [xO 8 a0, xI a1, xI a2, xI a3, xU, xU] [] N Q)) ∧ (¬ ((-1) ≤ a2) → Q (xL (-2)) M)) ∧ (¬ (a1 = (-1)) → Ru d kTable_hasHop 0 [xO 6 (a0 + 3), xI a1] [] M (fun r N => Ru (d + 1) kRS_own 13 [xO 8 a0, xI a1, xI a2, xI a3, xU, xU] [r] N Q))) :
    Ru (d + 1) kRS_own 0 [xO 8 a0, xI a1, xI a2, xI a3, xU, xU] [] M Q := sx_ok cRS_own 9 [13, 29, 35, 91, 123] rfl h
theorem vRS_own_13 {d : Nat} {M : xM} {Q : xQ} {a0 a1 a2 a3 s0 : Int}
    (h : (s0 = 0 → Q (xL (-2)) M) ∧ (¬ (s0 = 0) → ((-1) ≤ a2 → Ru d kRS_seeSpans 0 [xO 8 a0] [] M (fun r N => Ru (d + 1) kRS_own 29 [xO 8 a0, xI a1, xI a2, xI a3, xU, xU] [] N Q)) ∧ (¬ ((-1) ≤ a2) → Q (xL (-2)) M))) :
    Ru (d + 1) kRS_own 13 [xO 8 a0, xI a1, xI a2, xI a3, xU, xU] [xI s0] M Q := sx_ok cRS_own 7 [13, 29, 35, 91, 123] rfl h
theorem vRS_own_29 {d : Nat} {M : xM} {Q : xQ} {a0 a1 a2 a3 : Int}
    (h : Ru (d + 1) kRS_own 35 [xO 8 a0, xI a1, xI a2, xI a3, xI 0, xI 0] [] M Q) :
    Ru (d + 1) kRS_own 29 [xO 8 a0, xI a1, xI a2, xI a3, xU, xU] [] M Q := sx_ok cRS_own 5 [13, 29, 35, 91, 123] rfl h
theorem vRS_own_35 {d : Nat} {M : xM} {Q : xQ} {a0 a1 a2 a3 a4 a5 : Int}
    (h : ((M (a0 + 19) 0) ≤ a5 → (¬ a2 = (-1) → Q (xL (-2)) M) ∧ (¬ (¬ a2 = (-1)) → (¬ a3 = 0 → Q (xL (-2)) M) ∧ (¬ (¬ a3 = 0) → Q (xL a4) M))) ∧ (¬ ((M (a0 + 19) 0) ≤ a5) → (0 ≤ a5 ∧ a5 < 121) ∧ (((M (a0 + 19 + 3) a5) = a1 → (0 ≤ a5 ∧ a5 < 121) ∧ ((0 ≤ a5 ∧ a5 < 121) ∧ (Ru d kPieces_cut 0 [xO 4 (a0 + 111), xL (M (a0 + 19 + 1) a5), xU, xL (M (a0 + 19 + 2) a5), xU, xU, xU, xU] [] M (fun r N => Ru (d + 1) kRS_own 91 [xO 8 a0, xI a1, xI a2, xI a3, xI a4, xI a5] [] N Q)))) ∧ (¬ ((M (a0 + 19 + 3) a5) = a1) → Ru (d + 1) kRS_own 35 [xO 8 a0, xI a1, xI a2, xI a3, xI a4, xI (z32 (a5 + 1))] [] M Q)))) :
    Ru (d + 1) kRS_own 35 [xO 8 a0, xI a1, xI a2, xI a3, xI a4, xI a5] [] M Q := sx_ok cRS_own 26 [13, 29, 35, 91, 123] rfl h
theorem vRS_own_91 {d : Nat} {M : xM} {Q : xQ} {a0 a1 a2 a3 a4 a5 : Int}
    (h : (a2 < a4 → Ru (d + 1) kRS_own 35 [xO 8 a0, xI a1, xI a2, xI a3, xI (z32 (a4 + (M (a0 + 111) 0))), xI (z32 (a5 + 1))] [] M Q) ∧ (¬ (a2 < a4) → ((M (a0 + 111) 0) ≤ (z32 (a2 - a4)) → Ru (d + 1) kRS_own 35 [xO 8 a0, xI a1, xI a2, xI a3, xI (z32 (a4 + (M (a0 + 111) 0))), xI (z32 (a5 + 1))] [] M Q) ∧ (¬ ((M (a0 + 111) 0) ≤ (z32 (a2 - a4))) → Ru d kPieces_tellOf 0 [xO 4 (a0 + 111), xI (z32 (a2 - a4)), xI a3] [] M (fun r N => Ru (d + 1) kRS_own 123 [xO 8 a0, xI a1, xI a2, xI a3, xI a4, xI a5] [r] N Q)))) :
    Ru (d + 1) kRS_own 91 [xO 8 a0, xI a1, xI a2, xI a3, xI a4, xI a5] [] M Q := sx_ok cRS_own 19 [13, 29, 35, 91, 123] rfl h
theorem vRS_own_123 {d : Nat} {M : xM} {Q : xQ} {a0 a1 a2 a3 a4 a5 s0 : Int}
    (h : Q (xL s0) M) :
    Ru (d + 1) kRS_own 123 [xO 8 a0, xI a1, xI a2, xI a3, xI a4, xI a5] [xL s0] M Q := sx_ok cRS_own 2 [13, 29, 35, 91, 123] rfl h
theorem vRS_best_0 {d : Nat} {M : xM} {Q : xQ} {a0 a1 a2 : Int}
    (h : (a1 < 6 → Q (xL (-1)) M) ∧ (¬ (a1 < 6) → (16 < a1 → Q (xL (-1)) M) ∧ (¬ (16 < a1) → (a2 = 0 → Ru (d + 1) kRS_best 25 [xO 8 a0, xI a1, xI a2, xU] [] M Q) ∧ (¬ (a2 = 0) → (a2 = 1 → Ru (d + 1) kRS_best 25 [xO 8 a0, xI a1, xI a2, xU] [] M Q) ∧ (¬ (a2 = 1) → Q (xL (-1)) M))))) :
    Ru (d + 1) kRS_best 0 [xO 8 a0, xI a1, xI a2, xU] [] M Q := sx_ok cRS_best 14 [25, 29, 37, 50, 61] rfl h
theorem vRS_best_25 {d : Nat} {M : xM} {Q : xQ} {a0 a1 a2 : Int}
    (h : Ru d kRS_seeCosts 0 [xO 8 a0] [] M (fun r N => Ru (d + 1) kRS_best 29 [xO 8 a0, xI a1, xI a2, xU] [] N Q)) :
    Ru (d + 1) kRS_best 25 [xO 8 a0, xI a1, xI a2, xU] [] M Q := sx_ok cRS_best 3 [25, 29, 37, 50, 61] rfl h
theorem vRS_best_29 {d : Nat} {M : xM} {Q : xQ} {a0 a1 a2 : Int}
    (h : Ru d kCosts_bestLevels 0 [xO 0 (a0 + 75), xI a1, xU, xU] [] M (fun r N => Ru (d + 1) kRS_best 37 [xO 8 a0, xI a1, xI a2, xU] [r] N Q)) :
    Ru (d + 1) kRS_best 29 [xO 8 a0, xI a1, xI a2, xU] [] M Q := sx_ok cRS_best 5 [25, 29, 37, 50, 61] rfl h
theorem vRS_best_37 {d : Nat} {M : xM} {Q : xQ} {a0 a1 a2 s0 : Int}
    (h : (¬ a2 = 0 → Ru d kCosts_digitsBy 0 [xO 0 (a0 + 75), xI s0, xU, xU, xU, xU, xU] [] M (fun r N => Ru (d + 1) kRS_best 61 [xO 8 a0, xI a1, xI a2, xI s0] [r] N Q)) ∧ (¬ (¬ a2 = 0) → Ru d kCosts_slotsBy 0 [xO 0 (a0 + 75), xI s0] [] M (fun r N => Ru (d + 1) kRS_best 50 [xO 8 a0, xI a1, xI a2, xI s0] [r] N Q))) :
    Ru (d + 1) kRS_best 37 [xO 8 a0, xI a1, xI a2, xU] [xI s0] M Q := sx_ok cRS_best 8 [25, 29, 37, 50, 61] rfl h
theorem vRS_best_50 {d : Nat} {M : xM} {Q : xQ} {a0 a1 a2 a3 s0 : Int}
    (h : Ru (d + 1) kRS_best 61 [xO 8 a0, xI a1, xI a2, xI a3] [xL s0] M Q) :
    Ru (d + 1) kRS_best 50 [xO 8 a0, xI a1, xI a2, xI a3] [xL s0] M Q := sx_ok cRS_best 2 [25, 29, 37, 50, 61] rfl h
theorem vRS_best_61 {d : Nat} {M : xM} {Q : xQ} {a0 a1 a2 a3 s0 : Int}
    (h : Q (xL s0) M) :
    Ru (d + 1) kRS_best 61 [xO 8 a0, xI a1, xI a2, xI a3] [xL s0] M Q := sx_ok cRS_best 2 [25, 29, 37, 50, 61] rfl h
theorem vRS_fewest_0 {d : Nat} {M : xM} {Q : xQ} {a0 a1 a2 : Int}
    (h : Ru d kRS_seeFewest 0 [xO 8 a0] [] M (fun r N => Ru (d + 1) kRS_fewest 4 [xO 8 a0, xI a1, xI a2] [] N Q)) :
    Ru (d + 1) kRS_fewest 0 [xO 8 a0, xI a1, xI a2] [] M Q := sx_ok cRS_fewest 3 [4, 22] rfl h
theorem vRS_fewest_4 {d : Nat} {M : xM} {Q : xQ} {a0 a1 a2 : Int}
    (h : (¬ a1 = (-1) → Ru (d + 1) kRS_fewest 22 [xO 8 a0, xI a1, xI a2] [] M Q) ∧ (¬ (¬ a1 = (-1)) → (¬ a2 = 0 → Ru (d + 1) kRS_fewest 22 [xO 8 a0, xI a1, xI a2] [] M Q) ∧ (¬ (¬ a2 = 0) → Q (xL (M (a0 + 69) 0)) M))) :
    Ru (d + 1) kRS_fewest 4 [xO 8 a0, xI a1, xI a2] [] M Q := sx_ok cRS_fewest 11 [4, 22] rfl h
theorem vRS_fewest_22 {d : Nat} {M : xM} {Q : xQ} {a0 a1 a2 : Int}
    (h : (a1 < 0 → Q (xL (-2)) M) ∧ (¬ (a1 < 0) → (a1 < (M (a0 + 69) 0) → (a2 = 0 → (0 ≤ a1 ∧ a1 < 60) ∧ (Q (xL (M (a0 + 69 + 2) a1)) M)) ∧ (¬ a2 = 0 → (a2 = 1 → (0 ≤ a1 ∧ a1 < 60) ∧ (Q (xL (M (a0 + 69 + 1) a1)) M)) ∧ (¬ a2 = 1 → (a2 = 2 → (0 ≤ a1 ∧ a1 < 60) ∧ (Q (xL (M (a0 + 69 + 3) a1)) M)) ∧ (¬ a2 = 2 → Q (xL (-2)) M)))) ∧ (¬ (a1 < (M (a0 + 69) 0)) → Q (xL (-2)) M))) :
    Ru (d + 1) kRS_fewest 22 [xO 8 a0, xI a1, xI a2] [] M Q := sx_ok cRS_fewest 17 [4, 22] rfl h
theorem vRS_steps_0 {d : Nat} {M : xM} {Q : xQ} {a0 : Int}
    (h : Ru d kRS_seeNodes 0 [xO 8 a0] [] M (fun r N => Ru (d + 1) kRS_steps 4 [xO 8 a0] [] N Q)) :
    Ru (d + 1) kRS_steps 0 [xO 8 a0] [] M Q := sx_ok cRS_steps 3 [4, 11, 14] rfl h
theorem vRS_steps_4 {d : Nat} {M : xM} {Q : xQ} {a0 : Int}
    (h : Ru d kNodes_allSteps 0 [xO 3 (a0 + 35), xU, xU, xU] [] M (fun r N => Ru (d + 1) kRS_steps 11 [xO 8 a0] [r] N Q)) :
    Ru (d + 1) kRS_steps 4 [xO 8 a0] [] M Q := sx_ok cRS_steps 4 [4, 11, 14] rfl h
theorem vRS_steps_11 {d : Nat} {M : xM} {Q : xQ} {a0 s0 : Int}
    (h : Ru d kRS_bitsOfMean 0 [xL s0, xU, xU, xU, xU, xU, xU] [] M (fun r N => Ru (d + 1) kRS_steps 14 [xO 8 a0] [r] N Q)) :
    Ru (d + 1) kRS_steps 11 [xO 8 a0] [xL s0] M Q := sx_ok cRS_steps 2 [4, 11, 14] rfl h
theorem vRS_steps_14 {d : Nat} {M : xM} {Q : xQ} {a0 s0 : Int}
    (h : Q (xL s0) M) :
    Ru (d + 1) kRS_steps 14 [xO 8 a0] [xL s0] M Q := sx_ok cRS_steps 2 [4, 11, 14] rfl h
theorem vRS_count_0 {d : Nat} {M : xM} {Q : xQ} {a0 a1 : Int}
    (h : (a1 = 0 → Q (xI (M (a0 + 3) 0)) M) ∧ (¬ a1 = 0 → (a1 = 1 → Ru d kTable_hops 0 [xO 6 (a0 + 3), xU, xU] [] M (fun r N => Ru (d + 1) kRS_count 83 [xO 8 a0, xI a1] [r] N Q)) ∧ (¬ a1 = 1 → (a1 = 2 → Q (xI (M (a0 + 3) 6)) M) ∧ (¬ a1 = 2 → (a1 = 3 → Ru d kRS_seeNodes 0 [xO 8 a0] [] M (fun r N => Ru (d + 1) kRS_count 96 [xO 8 a0, xI a1] [] N Q)) ∧ (¬ a1 = 3 → (a1 = 4 → Ru d kRS_seeKinds 0 [xO 8 a0] [] M (fun r N => Ru (d + 1) kRS_count 108 [xO 8 a0, xI a1] [] N Q)) ∧ (¬ a1 = 4 → (a1 = 5 → Ru d kRS_seeNodes 0 [xO 8 a0] [] M (fun r N => Ru (d + 1) kRS_count 128 [xO 8 a0, xI a1] [] N Q)) ∧ (¬ a1 = 5 → (a1 = 6 → Ru d kRS_seeSpans 0 [xO 8 a0] [] M (fun r N => Ru (d + 1) kRS_count 148 [xO 8 a0, xI a1] [] N Q)) ∧ (¬ a1 = 6 → (a1 = 7 → Ru d kRS_seeSpans 0 [xO 8 a0] [] M (fun r N => Ru (d + 1) kRS_count 160 [xO 8 a0, xI a1] [] N Q)) ∧ (¬ a1 = 7 → (a1 = 8 → Ru d kRS_touchedByLastAct 0 [xO 8 a0] [] M (fun r N => Ru (d + 1) kRS_count 179 [xO 8 a0, xI a1] [r] N Q)) ∧ (¬ a1 = 8 → (a1 = 9 → Q (xI (M a0 5)) M) ∧ (¬ a1 = 9 → (a1 = 10 → Q (xI (M (a0 + 1) 0)) M) ∧ (¬ a1 = 10 → (a1 = 11 → Q (xI (M a0 6)) M) ∧ (¬ a1 = 11 → (a1 = 12 → Ru d kRS_seeNodes 0 [xO 8 a0] [] M (fun r N => Ru (d + 1) kRS_count 202 [xO 8 a0, xI a1] [] N Q)) ∧ (¬ a1 = 12 → Q (xI (-1)) M)))))))))))))) :
    Ru (d + 1) kRS_count 0 [xO 8 a0, xI a1] [] M Q := sx_ok cRS_count 7 [83, 96, 108, 123, 128, 143, 148, 160, 174, 179, 202, 209] rfl h
theorem vRS_count_83 {d : Nat} {M : xM} {Q : xQ} {a0 a1 s0 : Int}
    (h : Q (xI s0) M) :
    Ru (d + 1) kRS_count 83 [xO 8 a0, xI a1] [xI s0] M Q := sx_ok cRS_count 2 [83, 96, 108, 123, 128, 143, 148, 160, 174, 179, 202, 209] rfl h
theorem vRS_count_96 {d : Nat} {M : xM} {Q : xQ} {a0 a1 : Int}
    (h : Q (xI (M (a0 + 35) 0)) M) :
    Ru (d + 1) kRS_count 96 [xO 8 a0, xI a1] [] M Q := sx_ok cRS_count 5 [83, 96, 108, 123, 128, 143, 148, 160, 174, 179, 202, 209] rfl h
theorem vRS_count_108 {d : Nat} {M : xM} {Q : xQ} {a0 a1 : Int}
    (h : Ru d kKinds_unlikeIn 0 [xO 2 (a0 + 65), xI 0, xI (M (a0 + 35) 0), xU, xU] [] M (fun r N => Ru (d + 1) kRS_count 123 [xO 8 a0, xI a1] [r] N Q)) :
    Ru (d + 1) kRS_count 108 [xO 8 a0, xI a1] [] M Q := sx_ok cRS_count 8 [83, 96, 108, 123, 128, 143, 148, 160, 174, 179, 202, 209] rfl h
theorem vRS_count_123 {d : Nat} {M : xM} {Q : xQ} {a0 a1 s0 : Int}
    (h : Q (xI s0) M) :
    Ru (d + 1) kRS_count 123 [xO 8 a0, xI a1] [xI s0] M Q := sx_ok cRS_count 2 [83, 96, 108, 123, 128, 143, 148, 160, 174, 179, 202, 209] rfl h
theorem vRS_count_128 {d : Nat} {M : xM} {Q : xQ} {a0 a1 : Int}
    (h : Ru d kNodes_storedIn 0 [xO 3 (a0 + 35), xI 0, xI (M (a0 + 35) 0)] [] M (fun r N => Ru (d + 1) kRS_count 143 [xO 8 a0, xI a1] [r] N Q)) :
    Ru (d + 1) kRS_count 128 [xO 8 a0, xI a1] [] M Q := sx_ok cRS_count 8 [83, 96, 108, 123, 128, 143, 148, 160, 174, 179, 202, 209] rfl h
theorem vRS_count_143 {d : Nat} {M : xM} {Q : xQ} {a0 a1 s0 : Int}
    (h : Q (xI s0) M) :
    Ru (d + 1) kRS_count 143 [xO 8 a0, xI a1] [xI s0] M Q := sx_ok cRS_count 2 [83, 96, 108, 123, 128, 143, 148, 160, 174, 179, 202, 209] rfl h
theorem vRS_count_148 {d : Nat} {M : xM} {Q : xQ} {a0 a1 : Int}
    (h : Q (xI (M (a0 + 19) 0)) M) :
    Ru (d + 1) kRS_count 148 [xO 8 a0, xI a1] [] M Q := sx_ok cRS_count 5 [83, 96, 108, 123, 128, 143, 148, 160, 174, 179, 202, 209] rfl h
theorem vRS_count_160 {d : Nat} {M : xM} {Q : xQ} {a0 a1 : Int}
    (h : Ru d kSpans_idle 0 [xO 5 (a0 + 19), xI (M (a0 + 3) 0), xU, xU] [] M (fun r N => Ru (d + 1) kRS_count 174 [xO 8 a0, xI a1] [r] N Q)) :
    Ru (d + 1) kRS_count 160 [xO 8 a0, xI a1] [] M Q := sx_ok cRS_count 7 [83, 96, 108, 123, 128, 143, 148, 160, 174, 179, 202, 209] rfl h
theorem vRS_count_174 {d : Nat} {M : xM} {Q : xQ} {a0 a1 s0 : Int}
    (h : Q (xI s0) M) :
    Ru (d + 1) kRS_count 174 [xO 8 a0, xI a1] [xI s0] M Q := sx_ok cRS_count 2 [83, 96, 108, 123, 128, 143, 148, 160, 174, 179, 202, 209] rfl h
theorem vRS_count_179 {d : Nat} {M : xM} {Q : xQ} {a0 a1 s0 : Int}
    (h : Q (xI s0) M) :
    Ru (d + 1) kRS_count 179 [xO 8 a0, xI a1] [xI s0] M Q := sx_ok cRS_count 2 [83, 96, 108, 123, 128, 143, 148, 160, 174, 179, 202, 209] rfl h
theorem vRS_count_202 {d : Nat} {M : xM} {Q : xQ} {a0 a1 : Int}
    (h : Ru d kNodes_deepest 0 [xO 3 (a0 + 35)] [] M (fun r N => Ru (d + 1) kRS_count 209 [xO 8 a0, xI a1] [r] N Q)) :
    Ru (d + 1) kRS_count 202 [xO 8 a0, xI a1] [] M Q := sx_ok cRS_count 4 [83, 96, 108, 123, 128, 143, 148, 160, 174, 179, 202, 209] rfl h
theorem vRS_count_209 {d : Nat} {M : xM} {Q : xQ} {a0 a1 s0 : Int}
    (h : Q (xI s0) M) :
    Ru (d + 1) kRS_count 209 [xO 8 a0, xI a1] [xI s0] M Q := sx_ok cRS_count 2 [83, 96, 108, 123, 128, 143, 148, 160, 174, 179, 202, 209] rfl h
theorem vRS_unsigned_0 {d : Nat} {M : xM} {Q : xQ} {a0 : Int}
    (h : Q (xL (land a0 4294967295)) M) :
    Ru d kRS_unsigned 0 [xI a0] [] M Q := sx_ok cRS_unsigned 6 [] rfl h
theorem vRS_widthOf_0 {d : Nat} {M : xM} {Q : xQ} {a0 : Int}
    (h : Q (xL (lshr 4294967296 a0)) M) :
    Ru d kRS_widthOf 0 [xI a0] [] M Q := sx_ok cRS_widthOf 5 [] rfl h
theorem vRS_isBeginning_0 {d : Nat} {M : xM} {Q : xQ} {a0 a1 : Int}
    (h : (a1 < 0 → Q (xI 0) M) ∧ (¬ (a1 < 0) → (32 < a1 → Q (xI 0) M) ∧ (¬ (32 < a1) → Ru d kRS_unsigned 0 [xI a0] [] M (fun r N => Ru (d + 1) kRS_isBeginning 14 [xI a0, xI a1] [r] N Q)))) :
    Ru (d + 1) kRS_isBeginning 0 [xI a0, xI a1] [] M Q := sx_ok cRS_isBeginning 8 [14, 18] rfl h
theorem vRS_isBeginning_14 {d : Nat} {M : xM} {Q : xQ} {a0 a1 s0 : Int}
    (h : Ru d kRS_widthOf 0 [xI a1] [] M (fun r N => Ru (d + 1) kRS_isBeginning 18 [xI a0, xI a1] [r, xL s0] N Q)) :
    Ru (d + 1) kRS_isBeginning 14 [xI a0, xI a1] [xL s0] M Q := sx_ok cRS_isBeginning 3 [14, 18] rfl h
theorem vRS_isBeginning_18 {d : Nat} {M : xM} {Q : xQ} {a0 a1 s0 s1 : Int}
    (h : (¬ (land s1 (z64 (s0 - 1))) = 0 → Q (xI 0) M) ∧ (¬ (¬ (land s1 (z64 (s0 - 1))) = 0) → Q (xI 1) M)) :
    Ru (d + 1) kRS_isBeginning 18 [xI a0, xI a1] [xL s0, xL s1] M Q := sx_ok cRS_isBeginning 9 [14, 18] rfl h
theorem vRS_isWay_0 {d : Nat} {M : xM} {Q : xQ} {a0 a1 : Int}
    (h : (a0 < 0 → Q (xI 0) M) ∧ (¬ (a0 < 0) → (99 < a0 → Q (xI 0) M) ∧ (¬ (99 < a0) → (a1 < 0 → Q (xI 0) M) ∧ (¬ (a1 < 0) → (9 < a1 → Q (xI 0) M) ∧ (¬ (9 < a1) → Q (xI 1) M))))) :
    Ru d kRS_isWay 0 [xI a0, xI a1] [] M Q := sx_ok cRS_isWay 14 [] rfl h
theorem vRS_keyOf_0 {d : Nat} {M : xM} {Q : xQ} {a0 a1 : Int}
    (h : Q (xI (z32 ((z32 (a0 * 10)) + a1))) M) :
    Ru d kRS_keyOf 0 [xI a0, xI a1] [] M Q := sx_ok cRS_keyOf 7 [] rfl h
theorem vRS_stateOf_0 {d : Nat} {M : xM} {Q : xQ} {a0 a1 a2 a3 : Int}
    (h : Ru d kRS_unsigned 0 [xI a1] [] M (fun r N => Ru (d + 1) kRS_stateOf 8 [xO 8 a0, xI a1, xI a2, xI a3, xU] [r, xO 6 (a0 + 3)] N Q)) :
    Ru (d + 1) kRS_stateOf 0 [xO 8 a0, xI a1, xI a2, xI a3, xU] [] M Q := sx_ok cRS_stateOf 5 [8, 12, 28] rfl h
theorem vRS_stateOf_8 {d : Nat} {M : xM} {Q : xQ} {a0 a1 a2 a3 s0 s1 : Int}
    (h : Ru d kTable_find 0 [xO 6 s1, xL s0, xU, xI a2, xU] [] M (fun r N => Ru (d + 1) kRS_stateOf 12 [xO 8 a0, xI a1, xI a2, xI a3, xU] [r] N Q)) :
    Ru (d + 1) kRS_stateOf 8 [xO 8 a0, xI a1, xI a2, xI a3, xU] [xL s0, xO 6 s1] M Q := sx_ok cRS_stateOf 3 [8, 12, 28] rfl h
theorem vRS_stateOf_12 {d : Nat} {M : xM} {Q : xQ} {a0 a1 a2 a3 s0 : Int}
    (h : (s0 < 0 → ((M (a0 + 3) 0) < 60 → Q (xI 0) M) ∧ (¬ ((M (a0 + 3) 0) < 60) → Q (xI (-3)) M)) ∧ (¬ (s0 < 0) → Ru d kTable_keyOfRule 0 [xO 6 (a0 + 3), xI s0, xU] [] M (fun r N => Ru (d + 1) kRS_stateOf 28 [xO 8 a0, xI a1, xI a2, xI a3, xI s0] [r] N Q))) :
    Ru (d + 1) kRS_stateOf 12 [xO 8 a0, xI a1, xI a2, xI a3, xU] [xI s0] M Q := sx_ok cRS_stateOf 12 [8, 12, 28] rfl h
theorem vRS_stateOf_28 {d : Nat} {M : xM} {Q : xQ} {a0 a1 a2 a3 a4 s0 : Int}
    (h : (¬ s0 = a3 → Q (xI 0) M) ∧ (¬ (¬ s0 = a3) → Q (xI (-2)) M)) :
    Ru (d + 1) kRS_stateOf 28 [xO 8 a0, xI a1, xI a2, xI a3, xI a4] [xI s0] M Q := sx_ok cRS_stateOf 6 [8, 12, 28] rfl h
theorem vRS_isKept_0 {d : Nat} {M : xM} {Q : xQ} {a0 a1 : Int}
    (h : ((iand (M a0 6) (ishl 1 a1)) = 0 → Q (xI 0) M) ∧ (¬ ((iand (M a0 6) (ishl 1 a1)) = 0) → Q (xI 1) M)) :
    Ru d kRS_isKept 0 [xO 8 a0, xI a1] [] M Q := sx_ok cRS_isKept 11 [] rfl h
theorem vRS_lookAtRules_0 {d : Nat} {M : xM} {Q : xQ} {a0 a1 a2 : Int}
    (h : (a1 < 0 → Q (xI (-1)) M) ∧ (¬ (a1 < 0) → (a1 < 60 → (¬ a2 = 0 → (¬ a2 = 1 → Ru d kRS_seeSpans 0 [xO 8 a0] [] M (fun r N => Ru (d + 1) kRS_lookAtRules 37 [xO 8 a0, xI a1, xI a2, xU] [] N Q)) ∧ (¬ (¬ a2 = 1) → Q (xI a1) M)) ∧ (¬ (¬ a2 = 0) → (0 ≤ a1 ∧ a1 < 60) ∧ (Q (xI (M (a0 + 3 + 3) a1)) M))) ∧ (¬ (a1 < 60) → Q (xI (-1)) M))) :
    Ru (d + 1) kRS_lookAtRules 0 [xO 8 a0, xI a1, xI a2, xU] [] M Q := sx_ok cRS_lookAtRules 14 [37] rfl h
theorem vRS_lookAtRules_37 {d : Nat} {M : xM} {Q : xQ} {a0 a1 a2 : Int}
    (h : (0 ≤ a1 ∧ a1 < 60) ∧ (((M (a0 + 19 + 6) a1) < 0 → Q (xI (-1)) M) ∧ (¬ ((M (a0 + 19 + 6) a1) < 0) → (60 ≤ (M (a0 + 19 + 6) a1) → Q (xI (-1)) M) ∧ (¬ (60 ≤ (M (a0 + 19 + 6) a1)) → (0 ≤ (M (a0 + 19 + 6) a1) ∧ (M (a0 + 19 + 6) a1) < 60) ∧ (Q (xI (M (a0 + 3 + 3) (M (a0 + 19 + 6) a1))) M))))) :
    Ru (d + 1) kRS_lookAtRules 37 [xO 8 a0, xI a1, xI a2, xU] [] M Q := sx_ok cRS_lookAtRules 19 [37] rfl h
theorem vRS_beginAct_0 {d : Nat} {M : xM} {Q : xQ} {a0 : Int}
    (h : ((M a0 5) < 10 → Ru (d + 1) kRS_beginAct 13 [xO 8 a0] [] M Q) ∧ (¬ ((M a0 5) < 10) → Ru d kRS_dropOldestAct 0 [xO 8 a0, xU, xU] [] M (fun r N => Ru (d + 1) kRS_beginAct 13 [xO 8 a0] [] N Q))) :
    Ru (d + 1) kRS_beginAct 0 [xO 8 a0] [] M Q := sx_ok cRS_beginAct 7 [13, 29] rfl h
theorem vRS_beginAct_13 {d : Nat} {M : xM} {Q : xQ} {a0 : Int}
    (h : (0 ≤ (M a0 5) ∧ (M a0 5) < 10) ∧ (Ru d kTable_copyFrom 0 [xO 6 (M (a0 + 17) (M a0 5)), xO 6 (a0 + 3), xU] [] M (fun r N => Ru (d + 1) kRS_beginAct 29 [xO 8 a0] [] N Q))) :
    Ru (d + 1) kRS_beginAct 13 [xO 8 a0] [] M Q := sx_ok cRS_beginAct 9 [13, 29] rfl h
theorem vRS_beginAct_29 {d : Nat} {M : xM} {Q : xQ} {a0 : Int}
    (h : Q xU (up (up (up M a0 5 (z32 ((M a0 5) + 1))) a0 7 (-1)) a0 8 0)) :
    Ru (d + 1) kRS_beginAct 29 [xO 8 a0] [] M Q := sx_ok cRS_beginAct 14 [13, 29] rfl h
theorem vRS_dropOldestAct_0 {d : Nat} {M : xM} {Q : xQ} {a0 : Int}
    (h : (0 ≤ (0 : Int) ∧ (0 : Int) < 10) ∧ (Ru d kRS_dropOldestAct 9 [xO 8 a0, xO 6 (M (a0 + 17) 0), xI 1] [] M Q)) :
    Ru d kRS_dropOldestAct 0 [xO 8 a0, xU, xU] [] M Q := sx_ok cRS_dropOldestAct 8 [9] rfl h
theorem vRS_dropOldestAct_9 {d : Nat} {M : xM} {Q : xQ} {a0 a1 a2 : Int}
    (h : (10 ≤ a2 → (0 ≤ (9 : Int) ∧ (9 : Int) < 10) ∧ (Q xU (up (up M (a0 + 17) 9 a1) a0 5 9))) ∧ (¬ (10 ≤ a2) → (0 ≤ a2 ∧ a2 < 10) ∧ ((0 ≤ (z32 (a2 - 1)) ∧ (z32 (a2 - 1)) < 10) ∧ (Ru d kRS_dropOldestAct 9 [xO 8 a0, xO 6 a1, xI (z32 (a2 + 1))] [] (up M (a0 + 17) (z32 (a2 - 1)) (M (a0 + 17) a2)) Q)))) :
    Ru d kRS_dropOldestAct 9 [xO 8 a0, xO 6 a1, xI a2] [] M Q := sx_ok cRS_dropOldestAct 16 [9] rfl h
theorem vRS_forgetActs_0 {d : Nat} {M : xM} {Q : xQ} {a0 : Int}
    (h : Q xU (up (up (up M a0 5 0) a0 7 0) a0 8 0)) :
    Ru d kRS_forgetActs 0 [xO 8 a0] [] M Q := sx_ok cRS_forgetActs 11 [] rfl h
theorem vRS_touchedByLastAct_0 {d : Nat} {M : xM} {Q : xQ} {a0 : Int}
    (h : (¬ (M a0 7) = (-1) → Q (xI (M a0 7)) M) ∧ (¬ (¬ (M a0 7) = (-1)) → ((M a0 5) ≤ 0 → Q (xI (M a0 7)) M) ∧ (¬ ((M a0 5) ≤ 0) → (10 < (M a0 5) → Q (xI (M a0 7)) M) ∧ (¬ (10 < (M a0 5)) → Ru d kRS_seeNodes 0 [xO 8 a0] [] M (fun r N => Ru (d + 1) kRS_touchedByLastAct 28 [xO 8 a0] [] N Q))))) :
    Ru (d + 1) kRS_touchedByLastAct 0 [xO 8 a0] [] M Q := sx_ok cRS_touchedByLastAct 15 [28, 44] rfl h
theorem vRS_touchedByLastAct_28 {d : Nat} {M : xM} {Q : xQ} {a0 : Int}
    (h : (0 ≤ (z32 ((M a0 5) - 1)) ∧ (z32 ((M a0 5) - 1)) < 10) ∧ (Ru d kRS_touchedAgainst 0 [xO 8 a0, xO 6 (M (a0 + 17) (z32 ((M a0 5) - 1)))] [] M (fun r N => Ru (d + 1) kRS_touchedByLastAct 44 [xO 8 a0] [r, xO 8 a0] N Q))) :
    Ru (d + 1) kRS_touchedByLastAct 28 [xO 8 a0] [] M Q := sx_ok cRS_touchedByLastAct 11 [28, 44] rfl h
theorem vRS_touchedByLastAct_44 {d : Nat} {M : xM} {Q : xQ} {a0 s0 s1 : Int}
    (h : Q (xI ((up M s1 7 s0) a0 7)) (up M s1 7 s0)) :
    Ru (d + 1) kRS_touchedByLastAct 44 [xO 8 a0] [xI s0, xO 8 s1] M Q := sx_ok cRS_touchedByLastAct 5 [28, 44] rfl h
theorem vRS_touchedAgainst_0 {d : Nat} {M : xM} {Q : xQ} {a0 a1 : Int}
    (h : Ru d kSpans_survey 0 [xO 5 (a0 + 27), xO 6 a1, xU] [] M (fun r N => Ru (d + 1) kRS_touchedAgainst 8 [xO 8 a0, xO 6 a1] [] N Q)) :
    Ru (d + 1) kRS_touchedAgainst 0 [xO 8 a0, xO 6 a1] [] M Q := sx_ok cRS_touchedAgainst 5 [8, 20, 31] rfl h
theorem vRS_touchedAgainst_8 {d : Nat} {M : xM} {Q : xQ} {a0 a1 : Int}
    (h : Ru d kNodes_build 0 [xO 3 (a0 + 50), xO 6 a1, xO 5 (a0 + 27), xU, xU, xU, xU] [] M (fun r N => Ru (d + 1) kRS_touchedAgainst 20 [xO 8 a0, xO 6 a1] [] N Q)) :
    Ru (d + 1) kRS_touchedAgainst 8 [xO 8 a0, xO 6 a1] [] M Q := sx_ok cRS_touchedAgainst 7 [8, 20, 31] rfl h
theorem vRS_touchedAgainst_20 {d : Nat} {M : xM} {Q : xQ} {a0 a1 : Int}
    (h : Ru d kNodes_othersThan 0 [xO 3 (a0 + 35), xO 3 (a0 + 50), xU, xU, xU, xU, xU, xU] [] M (fun r N => Ru (d + 1) kRS_touchedAgainst 31 [xO 8 a0, xO 6 a1] [r] N Q)) :
    Ru (d + 1) kRS_touchedAgainst 20 [xO 8 a0, xO 6 a1] [] M Q := sx_ok cRS_touchedAgainst 6 [8, 20, 31] rfl h
theorem vRS_touchedAgainst_31 {d : Nat} {M : xM} {Q : xQ} {a0 a1 s0 : Int}
    (h : Q (xI s0) M) :
    Ru (d + 1) kRS_touchedAgainst 31 [xO 8 a0, xO 6 a1] [xI s0] M Q := sx_ok cRS_touchedAgainst 2 [8, 20, 31] rfl h
theorem vRS_seeSpans_0 {d : Nat} {M : xM} {Q : xQ} {a0 : Int}
    (h : (¬ (iand (M a0 8) 1) = 0 → Q xU M) ∧ (¬ (¬ (iand (M a0 8) 1) = 0) → Ru d kSpans_survey 0 [xO 5 (a0 + 19), xO 6 (a0 + 3), xU] [] M (fun r N => Ru (d + 1) kRS_seeSpans 20 [xO 8 a0] [] N Q))) :
    Ru (d + 1) kRS_seeSpans 0 [xO 8 a0] [] M Q := sx_ok cRS_seeSpans 11 [20] rfl h
theorem vRS_seeSpans_20 {d : Nat} {M : xM} {Q : xQ} {a0 : Int}
    (h : Q xU (up M a0 8 (ior (M a0 8) 1))) :
    Ru (d + 1) kRS_seeSpans 20 [xO 8 a0] [] M Q := sx_ok cRS_seeSpans 8 [20] rfl h
theorem vRS_seeNodes_0 {d : Nat} {M : xM} {Q : xQ} {a0 : Int}
    (h : (¬ (iand (M a0 8) 2) = 0 → Q xU M) ∧ (¬ (¬ (iand (M a0 8) 2) = 0) → Ru d kRS_seeSpans 0 [xO 8 a0] [] M (fun r N => Ru (d + 1) kRS_seeNodes 13 [xO 8 a0] [] N Q))) :
    Ru (d + 1) kRS_seeNodes 0 [xO 8 a0] [] M Q := sx_ok cRS_seeNodes 8 [13, 28] rfl h
theorem vRS_seeNodes_13 {d : Nat} {M : xM} {Q : xQ} {a0 : Int}
    (h : Ru d kNodes_build 0 [xO 3 (a0 + 35), xO 6 (a0 + 3), xO 5 (a0 + 19), xU, xU, xU, xU] [] M (fun r N => Ru (d + 1) kRS_seeNodes 28 [xO 8 a0] [] N Q)) :
    Ru (d + 1) kRS_seeNodes 13 [xO 8 a0] [] M Q := sx_ok cRS_seeNodes 8 [13, 28] rfl h
theorem vRS_seeNodes_28 {d : Nat} {M : xM} {Q : xQ} {a0 : Int}
    (h : Q xU (up M a0 8 (ior (M a0 8) 2))) :
    Ru (d + 1) kRS_seeNodes 28 [xO 8 a0] [] M Q := sx_ok cRS_seeNodes 8 [13, 28] rfl h
theorem vRS_seeKinds_0 {d : Nat} {M : xM} {Q : xQ} {a0 : Int}
    (h : (¬ (iand (M a0 8) 4) = 0 → Q xU M) ∧ (¬ (¬ (iand (M a0 8) 4) = 0) → Ru d kRS_seeNodes 0 [xO 8 a0] [] M (fun r N => Ru (d + 1) kRS_seeKinds 13 [xO 8 a0] [] N Q))) :
    Ru (d + 1) kRS_seeKinds 0 [xO 8 a0] [] M Q := sx_ok cRS_seeKinds 8 [13, 24] rfl h
theorem vRS_seeKinds_13 {d : Nat} {M : xM} {Q : xQ} {a0 : Int}
    (h : Ru d kKinds_find 0 [xO 2 (a0 + 65), xO 3 (a0 + 35), xU, xU, xU] [] M (fun r N => Ru (d + 1) kRS_seeKinds 24 [xO 8 a0] [] N Q)) :
    Ru (d + 1) kRS_seeKinds 13 [xO 8 a0] [] M Q := sx_ok cRS_seeKinds 6 [13, 24] rfl h
theorem vRS_seeKinds_24 {d : Nat} {M : xM} {Q : xQ} {a0 : Int}
    (h : Q xU (up M a0 8 (ior (M a0 8) 4))) :
    Ru (d + 1) kRS_seeKinds 24 [xO 8 a0] [] M Q := sx_ok cRS_seeKinds 8 [13, 24] rfl h
theorem vRS_seeFewest_0 {d : Nat} {M : xM} {Q : xQ} {a0 : Int}
    (h : (¬ (iand (M a0 8) 8) = 0 → Q xU M) ∧ (¬ (¬ (iand (M a0 8) 8) = 0) → Ru d kRS_seeSpans 0 [xO 8 a0] [] M (fun r N => Ru (d + 1) kRS_seeFewest 14 [xO 8 a0] [] N Q))) :
    Ru (d + 1) kRS_seeFewest 0 [xO 8 a0] [] M Q := sx_ok cRS_seeFewest 8 [14, 25] rfl h
theorem vRS_seeFewest_14 {d : Nat} {M : xM} {Q : xQ} {a0 : Int}
    (h : Ru d kFewest_seek 0 [xO 1 (a0 + 69), xO 5 (a0 + 19)] [] M (fun r N => Ru (d + 1) kRS_seeFewest 25 [xO 8 a0] [] N Q)) :
    Ru (d + 1) kRS_seeFewest 14 [xO 8 a0] [] M Q := sx_ok cRS_seeFewest 6 [14, 25] rfl h
theorem vRS_seeFewest_25 {d : Nat} {M : xM} {Q : xQ} {a0 : Int}
    (h : Q xU (up M a0 8 (ior (M a0 8) 8))) :
    Ru (d + 1) kRS_seeFewest 25 [xO 8 a0] [] M Q := sx_ok cRS_seeFewest 8 [14, 25] rfl h
theorem vRS_seeCosts_0 {d : Nat} {M : xM} {Q : xQ} {a0 : Int}
    (h : (¬ (iand (M a0 8) 16) = 0 → Q xU M) ∧ (¬ (¬ (iand (M a0 8) 16) = 0) → Ru d kRS_seeSpans 0 [xO 8 a0] [] M (fun r N => Ru (d + 1) kRS_seeCosts 14 [xO 8 a0] [] N Q))) :
    Ru (d + 1) kRS_seeCosts 0 [xO 8 a0] [] M Q := sx_ok cRS_seeCosts 8 [14, 25] rfl h
theorem vRS_seeCosts_14 {d : Nat} {M : xM} {Q : xQ} {a0 : Int}
    (h : Ru d kCosts_weigh 0 [xO 0 (a0 + 75), xO 5 (a0 + 19), xU, xU] [] M (fun r N => Ru (d + 1) kRS_seeCosts 25 [xO 8 a0] [] N Q)) :
    Ru (d + 1) kRS_seeCosts 14 [xO 8 a0] [] M Q := sx_ok cRS_seeCosts 6 [14, 25] rfl h
theorem vRS_seeCosts_25 {d : Nat} {M : xM} {Q : xQ} {a0 : Int}
    (h : Q xU (up M a0 8 (ior (M a0 8) 16))) :
    Ru (d + 1) kRS_seeCosts 25 [xO 8 a0] [] M Q := sx_ok cRS_seeCosts 8 [14, 25] rfl h
theorem vRS_bitsOfMean_0 {d : Nat} {M : xM} {Q : xQ} {a0 : Int}
    (h : Ru d kRS_bitsOfMean 4 [xL a0, xU, xI 0, xI 1, xU, xU, xU] [] M Q) :
    Ru d kRS_bitsOfMean 0 [xL a0, xU, xU, xU, xU, xU, xU] [] M Q := sx_ok cRS_bitsOfMean 5 [4] rfl h
theorem vRS_bitsOfMean_4 {d : Nat} {M : xM} {Q : xQ} {a0 a2 a3 : Int}
    (h : (53 ≤ a3 → Q (xL (lor (lshl (z32 ((z32 (a2 - 32)) + 1023)) 52) (land (lshl a0 (z32 (52 - a2))) 4503599627370495))) M) ∧ (¬ (53 ≤ a3) → ((lshr a0 a3) = 0 → Ru d kRS_bitsOfMean 4 [xL a0, xU, xI a2, xI (z32 (a3 + 1)), xU, xU, xU] [] M Q) ∧ (¬ ((lshr a0 a3) = 0) → Ru d kRS_bitsOfMean 4 [xL a0, xU, xI a3, xI (z32 (a3 + 1)), xU, xU, xU] [] M Q))) :
    Ru d kRS_bitsOfMean 4 [xL a0, xU, xI a2, xI a3, xU, xU, xU] [] M Q := sx_ok cRS_bitsOfMean 25 [4] rfl h
