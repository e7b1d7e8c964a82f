theorem o_0 (e : GE) (S : St) : (WW e S)[0]? = some (e.2.2.1 0, .inr (6, [.ref (e.2.2.1 1), .ref (e.2.2.1 2), .ref (e.2.2.1 11), .ref (e.2.2.1 18), .ref (e.2.2.1 24), .ref (e.2.2.1 37), .ref (e.2.2.1 38), .ref (e.2.2.1 46), .long (S.2 0)])) := rfl
theorem p_0_8 (e : GE) (S : St) (v : Int64) : (WW e S).set 0 (e.2.2.1 0, .inr (6, [.ref (e.2.2.1 1), .ref (e.2.2.1 2), .ref (e.2.2.1 11), .ref (e.2.2.1 18), .ref (e.2.2.1 24), .ref (e.2.2.1 37), .ref (e.2.2.1 38), .ref (e.2.2.1 46), .long (S.2 0)].set 8 (.long v))) = WW e (setL S 0 v) := rfl
theorem o_1 (e : GE) (S : St) : (WW e S)[1]? = some (e.2.2.1 1, .inr (3, [.ref (e.2.2.1 2), .ref (e.2.2.1 4), .int (S.1 202 0), .int (S.1 203 0), .int (S.1 204 0), .int (S.1 205 0)])) := rfl
theorem p_1_2 (e : GE) (S : St) (v : Int32) : (WW e S).set 1 (e.2.2.1 1, .inr (3, [.ref (e.2.2.1 2), .ref (e.2.2.1 4), .int (S.1 202 0), .int (S.1 203 0), .int (S.1 204 0), .int (S.1 205 0)].set 2 (.int v))) = WW e (setI S 202 v) := rfl
theorem p_1_3 (e : GE) (S : St) (v : Int32) : (WW e S).set 1 (e.2.2.1 1, .inr (3, [.ref (e.2.2.1 2), .ref (e.2.2.1 4), .int (S.1 202 0), .int (S.1 203 0), .int (S.1 204 0), .int (S.1 205 0)].set 3 (.int v))) = WW e (setI S 203 v) := rfl
theorem p_1_4 (e : GE) (S : St) (v : Int32) : (WW e S).set 1 (e.2.2.1 1, .inr (3, [.ref (e.2.2.1 2), .ref (e.2.2.1 4), .int (S.1 202 0), .int (S.1 203 0), .int (S.1 204 0), .int (S.1 205 0)].set 4 (.int v))) = WW e (setI S 204 v) := rfl
theorem p_1_5 (e : GE) (S : St) (v : Int32) : (WW e S).set 1 (e.2.2.1 1, .inr (3, [.ref (e.2.2.1 2), .ref (e.2.2.1 4), .int (S.1 202 0), .int (S.1 203 0), .int (S.1 204 0), .int (S.1 205 0)].set 5 (.int v))) = WW e (setI S 205 v) := rfl
theorem o_2 (e : GE) (S : St) : (WW e S)[2]? = some (e.2.2.1 2, .inr (4, [.ref (e.2.2.1 3), .int (S.1 301 0)])) := rfl
theorem p_2_1 (e : GE) (S : St) (v : Int32) : (WW e S).set 2 (e.2.2.1 2, .inr (4, [.ref (e.2.2.1 3), .int (S.1 301 0)].set 1 (.int v))) = WW e (setI S 301 v) := rfl
theorem a_3 (e : GE) (S : St) : (WW e S)[3]? = some (e.2.2.1 3, .inl (e.2.1 1, 300, .inl (S.1 3))) := rfl
theorem aw_3 (e : GE) (S : St) (f : Nat → Int32) : (WW e S).set 3 (e.2.2.1 3, .inl (e.2.1 1, 300, .inl f)) = WW e (setA S 3 f) := rfl
theorem o_4 (e : GE) (S : St) : (WW e S)[4]? = some (e.2.2.1 4, .inr (2, [.int (S.1 500 0), .int (S.1 501 0), .int (S.1 502 0), .ref (e.2.2.1 5), .ref (e.2.2.1 6), .ref (e.2.2.1 7), .ref (e.2.2.1 8), .ref (e.2.2.1 9), .ref (e.2.2.1 10)])) := rfl
theorem p_4_0 (e : GE) (S : St) (v : Int32) : (WW e S).set 4 (e.2.2.1 4, .inr (2, [.int (S.1 500 0), .int (S.1 501 0), .int (S.1 502 0), .ref (e.2.2.1 5), .ref (e.2.2.1 6), .ref (e.2.2.1 7), .ref (e.2.2.1 8), .ref (e.2.2.1 9), .ref (e.2.2.1 10)].set 0 (.int v))) = WW e (setI S 500 v) := rfl
theorem p_4_1 (e : GE) (S : St) (v : Int32) : (WW e S).set 4 (e.2.2.1 4, .inr (2, [.int (S.1 500 0), .int (S.1 501 0), .int (S.1 502 0), .ref (e.2.2.1 5), .ref (e.2.2.1 6), .ref (e.2.2.1 7), .ref (e.2.2.1 8), .ref (e.2.2.1 9), .ref (e.2.2.1 10)].set 1 (.int v))) = WW e (setI S 501 v) := rfl
theorem p_4_2 (e : GE) (S : St) (v : Int32) : (WW e S).set 4 (e.2.2.1 4, .inr (2, [.int (S.1 500 0), .int (S.1 501 0), .int (S.1 502 0), .ref (e.2.2.1 5), .ref (e.2.2.1 6), .ref (e.2.2.1 7), .ref (e.2.2.1 8), .ref (e.2.2.1 9), .ref (e.2.2.1 10)].set 2 (.int v))) = WW e (setI S 502 v) := rfl
theorem a_5 (e : GE) (S : St) : (WW e S)[5]? = some (e.2.2.1 5, .inl (e.2.1 0, 6, .inl (S.1 5))) := rfl
theorem aw_5 (e : GE) (S : St) (f : Nat → Int32) : (WW e S).set 5 (e.2.2.1 5, .inl (e.2.1 0, 6, .inl f)) = WW e (setA S 5 f) := rfl
theorem a_6 (e : GE) (S : St) : (WW e S)[6]? = some (e.2.2.1 6, .inl (e.2.1 0, 3, .inl (S.1 6))) := rfl
theorem aw_6 (e : GE) (S : St) (f : Nat → Int32) : (WW e S).set 6 (e.2.2.1 6, .inl (e.2.1 0, 3, .inl f)) = WW e (setA S 6 f) := rfl
theorem a_7 (e : GE) (S : St) : (WW e S)[7]? = some (e.2.2.1 7, .inl (e.2.1 0, 10, .inl (S.1 7))) := rfl
theorem aw_7 (e : GE) (S : St) (f : Nat → Int32) : (WW e S).set 7 (e.2.2.1 7, .inl (e.2.1 0, 10, .inl f)) = WW e (setA S 7 f) := rfl
theorem a_8 (e : GE) (S : St) : (WW e S)[8]? = some (e.2.2.1 8, .inl (e.2.1 0, 8, .inl (S.1 8))) := rfl
theorem aw_8 (e : GE) (S : St) (f : Nat → Int32) : (WW e S).set 8 (e.2.2.1 8, .inl (e.2.1 0, 8, .inl f)) = WW e (setA S 8 f) := rfl
theorem a_9 (e : GE) (S : St) : (WW e S)[9]? = some (e.2.2.1 9, .inl (e.2.1 0, 8, .inl (S.1 9))) := rfl
theorem aw_9 (e : GE) (S : St) (f : Nat → Int32) : (WW e S).set 9 (e.2.2.1 9, .inl (e.2.1 0, 8, .inl f)) = WW e (setA S 9 f) := rfl
theorem a_10 (e : GE) (S : St) : (WW e S)[10]? = some (e.2.2.1 10, .inl (e.2.1 0, 8, .inl (S.1 10))) := rfl
theorem aw_10 (e : GE) (S : St) (f : Nat → Int32) : (WW e S).set 10 (e.2.2.1 10, .inl (e.2.1 0, 8, .inl f)) = WW e (setA S 10 f) := rfl
theorem o_11 (e : GE) (S : St) : (WW e S)[11]? = some (e.2.2.1 11, .inr (2, [.int (S.1 1200 0), .int (S.1 1201 0), .int (S.1 1202 0), .ref (e.2.2.1 12), .ref (e.2.2.1 13), .ref (e.2.2.1 14), .ref (e.2.2.1 15), .ref (e.2.2.1 16), .ref (e.2.2.1 17)])) := rfl
theorem p_11_0 (e : GE) (S : St) (v : Int32) : (WW e S).set 11 (e.2.2.1 11, .inr (2, [.int (S.1 1200 0), .int (S.1 1201 0), .int (S.1 1202 0), .ref (e.2.2.1 12), .ref (e.2.2.1 13), .ref (e.2.2.1 14), .ref (e.2.2.1 15), .ref (e.2.2.1 16), .ref (e.2.2.1 17)].set 0 (.int v))) = WW e (setI S 1200 v) := rfl
theorem p_11_1 (e : GE) (S : St) (v : Int32) : (WW e S).set 11 (e.2.2.1 11, .inr (2, [.int (S.1 1200 0), .int (S.1 1201 0), .int (S.1 1202 0), .ref (e.2.2.1 12), .ref (e.2.2.1 13), .ref (e.2.2.1 14), .ref (e.2.2.1 15), .ref (e.2.2.1 16), .ref (e.2.2.1 17)].set 1 (.int v))) = WW e (setI S 1201 v) := rfl
theorem p_11_2 (e : GE) (S : St) (v : Int32) : (WW e S).set 11 (e.2.2.1 11, .inr (2, [.int (S.1 1200 0), .int (S.1 1201 0), .int (S.1 1202 0), .ref (e.2.2.1 12), .ref (e.2.2.1 13), .ref (e.2.2.1 14), .ref (e.2.2.1 15), .ref (e.2.2.1 16), .ref (e.2.2.1 17)].set 2 (.int v))) = WW e (setI S 1202 v) := rfl
theorem a_12 (e : GE) (S : St) : (WW e S)[12]? = some (e.2.2.1 12, .inl (e.2.1 0, 6, .inl (S.1 12))) := rfl
theorem aw_12 (e : GE) (S : St) (f : Nat → Int32) : (WW e S).set 12 (e.2.2.1 12, .inl (e.2.1 0, 6, .inl f)) = WW e (setA S 12 f) := rfl
theorem a_13 (e : GE) (S : St) : (WW e S)[13]? = some (e.2.2.1 13, .inl (e.2.1 0, 3, .inl (S.1 13))) := rfl
theorem aw_13 (e : GE) (S : St) (f : Nat → Int32) : (WW e S).set 13 (e.2.2.1 13, .inl (e.2.1 0, 3, .inl f)) = WW e (setA S 13 f) := rfl
theorem a_14 (e : GE) (S : St) : (WW e S)[14]? = some (e.2.2.1 14, .inl (e.2.1 0, 10, .inl (S.1 14))) := rfl
theorem aw_14 (e : GE) (S : St) (f : Nat → Int32) : (WW e S).set 14 (e.2.2.1 14, .inl (e.2.1 0, 10, .inl f)) = WW e (setA S 14 f) := rfl
theorem a_15 (e : GE) (S : St) : (WW e S)[15]? = some (e.2.2.1 15, .inl (e.2.1 0, 8, .inl (S.1 15))) := rfl
theorem aw_15 (e : GE) (S : St) (f : Nat → Int32) : (WW e S).set 15 (e.2.2.1 15, .inl (e.2.1 0, 8, .inl f)) = WW e (setA S 15 f) := rfl
theorem a_16 (e : GE) (S : St) : (WW e S)[16]? = some (e.2.2.1 16, .inl (e.2.1 0, 8, .inl (S.1 16))) := rfl
theorem aw_16 (e : GE) (S : St) (f : Nat → Int32) : (WW e S).set 16 (e.2.2.1 16, .inl (e.2.1 0, 8, .inl f)) = WW e (setA S 16 f) := rfl
theorem a_17 (e : GE) (S : St) : (WW e S)[17]? = some (e.2.2.1 17, .inl (e.2.1 0, 8, .inl (S.1 17))) := rfl
theorem aw_17 (e : GE) (S : St) (f : Nat → Int32) : (WW e S).set 17 (e.2.2.1 17, .inl (e.2.1 0, 8, .inl f)) = WW e (setA S 17 f) := rfl
theorem o_18 (e : GE) (S : St) : (WW e S)[18]? = some (e.2.2.1 18, .inr (1, [.int (S.1 1900 0), .ref (e.2.2.1 19), .ref (e.2.2.1 20), .ref (e.2.2.1 21), .ref (e.2.2.1 22), .ref (e.2.2.1 23)])) := rfl
theorem p_18_0 (e : GE) (S : St) (v : Int32) : (WW e S).set 18 (e.2.2.1 18, .inr (1, [.int (S.1 1900 0), .ref (e.2.2.1 19), .ref (e.2.2.1 20), .ref (e.2.2.1 21), .ref (e.2.2.1 22), .ref (e.2.2.1 23)].set 0 (.int v))) = WW e (setI S 1900 v) := rfl
theorem a_19 (e : GE) (S : St) : (WW e S)[19]? = some (e.2.2.1 19, .inl (e.2.1 0, 12, .inl (S.1 19))) := rfl
theorem aw_19 (e : GE) (S : St) (f : Nat → Int32) : (WW e S).set 19 (e.2.2.1 19, .inl (e.2.1 0, 12, .inl f)) = WW e (setA S 19 f) := rfl
theorem a_20 (e : GE) (S : St) : (WW e S)[20]? = some (e.2.2.1 20, .inl (e.2.1 0, 12, .inl (S.1 20))) := rfl
theorem aw_20 (e : GE) (S : St) (f : Nat → Int32) : (WW e S).set 20 (e.2.2.1 20, .inl (e.2.1 0, 12, .inl f)) = WW e (setA S 20 f) := rfl
theorem a_21 (e : GE) (S : St) : (WW e S)[21]? = some (e.2.2.1 21, .inl (e.2.1 0, 12, .inl (S.1 21))) := rfl
theorem aw_21 (e : GE) (S : St) (f : Nat → Int32) : (WW e S).set 21 (e.2.2.1 21, .inl (e.2.1 0, 12, .inl f)) = WW e (setA S 21 f) := rfl
theorem a_22 (e : GE) (S : St) : (WW e S)[22]? = some (e.2.2.1 22, .inl (e.2.1 0, 12, .inl (S.1 22))) := rfl
theorem aw_22 (e : GE) (S : St) (f : Nat → Int32) : (WW e S).set 22 (e.2.2.1 22, .inl (e.2.1 0, 12, .inl f)) = WW e (setA S 22 f) := rfl
theorem a_23 (e : GE) (S : St) : (WW e S)[23]? = some (e.2.2.1 23, .inl (e.2.1 0, 6, .inl (S.1 23))) := rfl
theorem aw_23 (e : GE) (S : St) (f : Nat → Int32) : (WW e S).set 23 (e.2.2.1 23, .inl (e.2.1 0, 6, .inl f)) = WW e (setA S 23 f) := rfl
theorem a_24 (e : GE) (S : St) : (WW e S)[24]? = some (e.2.2.1 24, .inl (e.2.1 3, 2, .inr (.inr (.inr (.inr (im_f e)))))) := rfl
theorem o_25 (e : GE) (S : St) : (WW e S)[25]? = some (e.2.2.1 25, .inr (1, [.int (S.1 2600 0), .ref (e.2.2.1 26), .ref (e.2.2.1 27), .ref (e.2.2.1 28), .ref (e.2.2.1 29), .ref (e.2.2.1 30)])) := rfl
theorem p_25_0 (e : GE) (S : St) (v : Int32) : (WW e S).set 25 (e.2.2.1 25, .inr (1, [.int (S.1 2600 0), .ref (e.2.2.1 26), .ref (e.2.2.1 27), .ref (e.2.2.1 28), .ref (e.2.2.1 29), .ref (e.2.2.1 30)].set 0 (.int v))) = WW e (setI S 2600 v) := rfl
theorem a_26 (e : GE) (S : St) : (WW e S)[26]? = some (e.2.2.1 26, .inl (e.2.1 0, 12, .inl (S.1 26))) := rfl
theorem aw_26 (e : GE) (S : St) (f : Nat → Int32) : (WW e S).set 26 (e.2.2.1 26, .inl (e.2.1 0, 12, .inl f)) = WW e (setA S 26 f) := rfl
theorem a_27 (e : GE) (S : St) : (WW e S)[27]? = some (e.2.2.1 27, .inl (e.2.1 0, 12, .inl (S.1 27))) := rfl
theorem aw_27 (e : GE) (S : St) (f : Nat → Int32) : (WW e S).set 27 (e.2.2.1 27, .inl (e.2.1 0, 12, .inl f)) = WW e (setA S 27 f) := rfl
theorem a_28 (e : GE) (S : St) : (WW e S)[28]? = some (e.2.2.1 28, .inl (e.2.1 0, 12, .inl (S.1 28))) := rfl
theorem aw_28 (e : GE) (S : St) (f : Nat → Int32) : (WW e S).set 28 (e.2.2.1 28, .inl (e.2.1 0, 12, .inl f)) = WW e (setA S 28 f) := rfl
theorem a_29 (e : GE) (S : St) : (WW e S)[29]? = some (e.2.2.1 29, .inl (e.2.1 0, 12, .inl (S.1 29))) := rfl
theorem aw_29 (e : GE) (S : St) (f : Nat → Int32) : (WW e S).set 29 (e.2.2.1 29, .inl (e.2.1 0, 12, .inl f)) = WW e (setA S 29 f) := rfl
theorem a_30 (e : GE) (S : St) : (WW e S)[30]? = some (e.2.2.1 30, .inl (e.2.1 0, 6, .inl (S.1 30))) := rfl
theorem aw_30 (e : GE) (S : St) (f : Nat → Int32) : (WW e S).set 30 (e.2.2.1 30, .inl (e.2.1 0, 6, .inl f)) = WW e (setA S 30 f) := rfl
theorem o_31 (e : GE) (S : St) : (WW e S)[31]? = some (e.2.2.1 31, .inr (1, [.int (S.1 3200 0), .ref (e.2.2.1 32), .ref (e.2.2.1 33), .ref (e.2.2.1 34), .ref (e.2.2.1 35), .ref (e.2.2.1 36)])) := rfl
theorem p_31_0 (e : GE) (S : St) (v : Int32) : (WW e S).set 31 (e.2.2.1 31, .inr (1, [.int (S.1 3200 0), .ref (e.2.2.1 32), .ref (e.2.2.1 33), .ref (e.2.2.1 34), .ref (e.2.2.1 35), .ref (e.2.2.1 36)].set 0 (.int v))) = WW e (setI S 3200 v) := rfl
theorem a_32 (e : GE) (S : St) : (WW e S)[32]? = some (e.2.2.1 32, .inl (e.2.1 0, 12, .inl (S.1 32))) := rfl
theorem aw_32 (e : GE) (S : St) (f : Nat → Int32) : (WW e S).set 32 (e.2.2.1 32, .inl (e.2.1 0, 12, .inl f)) = WW e (setA S 32 f) := rfl
theorem a_33 (e : GE) (S : St) : (WW e S)[33]? = some (e.2.2.1 33, .inl (e.2.1 0, 12, .inl (S.1 33))) := rfl
theorem aw_33 (e : GE) (S : St) (f : Nat → Int32) : (WW e S).set 33 (e.2.2.1 33, .inl (e.2.1 0, 12, .inl f)) = WW e (setA S 33 f) := rfl
theorem a_34 (e : GE) (S : St) : (WW e S)[34]? = some (e.2.2.1 34, .inl (e.2.1 0, 12, .inl (S.1 34))) := rfl
theorem aw_34 (e : GE) (S : St) (f : Nat → Int32) : (WW e S).set 34 (e.2.2.1 34, .inl (e.2.1 0, 12, .inl f)) = WW e (setA S 34 f) := rfl
theorem a_35 (e : GE) (S : St) : (WW e S)[35]? = some (e.2.2.1 35, .inl (e.2.1 0, 12, .inl (S.1 35))) := rfl
theorem aw_35 (e : GE) (S : St) (f : Nat → Int32) : (WW e S).set 35 (e.2.2.1 35, .inl (e.2.1 0, 12, .inl f)) = WW e (setA S 35 f) := rfl
theorem a_36 (e : GE) (S : St) : (WW e S)[36]? = some (e.2.2.1 36, .inl (e.2.1 0, 6, .inl (S.1 36))) := rfl
theorem aw_36 (e : GE) (S : St) (f : Nat → Int32) : (WW e S).set 36 (e.2.2.1 36, .inl (e.2.1 0, 6, .inl f)) = WW e (setA S 36 f) := rfl
theorem a_37 (e : GE) (S : St) : (WW e S)[37]? = some (e.2.2.1 37, .inl (e.2.1 2, 2, .inl (S.1 37))) := rfl
theorem aw_37 (e : GE) (S : St) (f : Nat → Int32) : (WW e S).set 37 (e.2.2.1 37, .inl (e.2.1 2, 2, .inl f)) = WW e (setA S 37 f) := rfl
theorem o_38 (e : GE) (S : St) : (WW e S)[38]? = some (e.2.2.1 38, .inr (5, [.int (S.1 3900 0), .int (S.1 3901 0), .ref (e.2.2.1 39), .ref (e.2.2.1 40), .ref (e.2.2.1 41), .ref (e.2.2.1 42), .ref (e.2.2.1 43), .ref (e.2.2.1 44), .ref (e.2.2.1 45)])) := rfl
theorem p_38_0 (e : GE) (S : St) (v : Int32) : (WW e S).set 38 (e.2.2.1 38, .inr (5, [.int (S.1 3900 0), .int (S.1 3901 0), .ref (e.2.2.1 39), .ref (e.2.2.1 40), .ref (e.2.2.1 41), .ref (e.2.2.1 42), .ref (e.2.2.1 43), .ref (e.2.2.1 44), .ref (e.2.2.1 45)].set 0 (.int v))) = WW e (setI S 3900 v) := rfl
theorem p_38_1 (e : GE) (S : St) (v : Int32) : (WW e S).set 38 (e.2.2.1 38, .inr (5, [.int (S.1 3900 0), .int (S.1 3901 0), .ref (e.2.2.1 39), .ref (e.2.2.1 40), .ref (e.2.2.1 41), .ref (e.2.2.1 42), .ref (e.2.2.1 43), .ref (e.2.2.1 44), .ref (e.2.2.1 45)].set 1 (.int v))) = WW e (setI S 3901 v) := rfl
theorem a_39 (e : GE) (S : St) : (WW e S)[39]? = some (e.2.2.1 39, .inl (e.2.1 2, 6, .inl (S.1 39))) := rfl
theorem aw_39 (e : GE) (S : St) (f : Nat → Int32) : (WW e S).set 39 (e.2.2.1 39, .inl (e.2.1 2, 6, .inl f)) = WW e (setA S 39 f) := rfl
theorem a_40 (e : GE) (S : St) : (WW e S)[40]? = some (e.2.2.1 40, .inl (e.2.1 0, 6, .inl (S.1 40))) := rfl
theorem aw_40 (e : GE) (S : St) (f : Nat → Int32) : (WW e S).set 40 (e.2.2.1 40, .inl (e.2.1 0, 6, .inl f)) = WW e (setA S 40 f) := rfl
theorem a_41 (e : GE) (S : St) : (WW e S)[41]? = some (e.2.2.1 41, .inl (e.2.1 0, 3, .inl (S.1 41))) := rfl
theorem aw_41 (e : GE) (S : St) (f : Nat → Int32) : (WW e S).set 41 (e.2.2.1 41, .inl (e.2.1 0, 3, .inl f)) = WW e (setA S 41 f) := rfl
theorem a_42 (e : GE) (S : St) : (WW e S)[42]? = some (e.2.2.1 42, .inl (e.2.1 0, 66, .inl (S.1 42))) := rfl
theorem aw_42 (e : GE) (S : St) (f : Nat → Int32) : (WW e S).set 42 (e.2.2.1 42, .inl (e.2.1 0, 66, .inl f)) = WW e (setA S 42 f) := rfl
theorem a_43 (e : GE) (S : St) : (WW e S)[43]? = some (e.2.2.1 43, .inl (e.2.1 0, 48, .inl (S.1 43))) := rfl
theorem aw_43 (e : GE) (S : St) (f : Nat → Int32) : (WW e S).set 43 (e.2.2.1 43, .inl (e.2.1 0, 48, .inl f)) = WW e (setA S 43 f) := rfl
theorem a_44 (e : GE) (S : St) : (WW e S)[44]? = some (e.2.2.1 44, .inl (e.2.1 0, 8, .inl (S.1 44))) := rfl
theorem aw_44 (e : GE) (S : St) (f : Nat → Int32) : (WW e S).set 44 (e.2.2.1 44, .inl (e.2.1 0, 8, .inl f)) = WW e (setA S 44 f) := rfl
theorem a_45 (e : GE) (S : St) : (WW e S)[45]? = some (e.2.2.1 45, .inl (e.2.1 0, 271, .inl (S.1 45))) := rfl
theorem aw_45 (e : GE) (S : St) (f : Nat → Int32) : (WW e S).set 45 (e.2.2.1 45, .inl (e.2.1 0, 271, .inl f)) = WW e (setA S 45 f) := rfl
theorem o_46 (e : GE) (S : St) : (WW e S)[46]? = some (e.2.2.1 46, .inr (0, [.int (S.1 4700 0), .ref (e.2.2.1 47), .ref (e.2.2.1 48)])) := rfl
theorem p_46_0 (e : GE) (S : St) (v : Int32) : (WW e S).set 46 (e.2.2.1 46, .inr (0, [.int (S.1 4700 0), .ref (e.2.2.1 47), .ref (e.2.2.1 48)].set 0 (.int v))) = WW e (setI S 4700 v) := rfl
theorem a_47 (e : GE) (S : St) : (WW e S)[47]? = some (e.2.2.1 47, .inl (e.2.1 0, 6, .inl (S.1 47))) := rfl
theorem aw_47 (e : GE) (S : St) (f : Nat → Int32) : (WW e S).set 47 (e.2.2.1 47, .inl (e.2.1 0, 6, .inl f)) = WW e (setA S 47 f) := rfl
theorem a_48 (e : GE) (S : St) : (WW e S)[48]? = some (e.2.2.1 48, .inl (e.2.1 0, 6, .inl (S.1 48))) := rfl
theorem aw_48 (e : GE) (S : St) (f : Nat → Int32) : (WW e S).set 48 (e.2.2.1 48, .inl (e.2.1 0, 6, .inl f)) = WW e (setA S 48 f) := rfl
theorem o_49 (e : GE) (S : St) : (WW e S)[49]? = some (e.2.2.1 49, .inr (7, [.long (S.2 1), .ref (e.2.2.1 50), .int (S.1 5002 0), .ref (e.2.2.1 51), .ref (e.2.2.1 52), .ref (e.2.2.1 53), .ref (e.2.2.1 54), .ref (e.2.2.1 55), .int (S.1 5008 0), .int (S.1 5009 0), .int (S.1 5010 0), .int (S.1 5011 0), .ref (e.2.2.1 56), .ref (e.2.2.1 57), .ref (e.2.2.1 58), .int (S.1 5015 0), .ref (e.2.2.1 59), .ref (e.2.2.1 60), .ref (e.2.2.1 61)])) := rfl
theorem p_49_0 (e : GE) (S : St) (v : Int64) : (WW e S).set 49 (e.2.2.1 49, .inr (7, [.long (S.2 1), .ref (e.2.2.1 50), .int (S.1 5002 0), .ref (e.2.2.1 51), .ref (e.2.2.1 52), .ref (e.2.2.1 53), .ref (e.2.2.1 54), .ref (e.2.2.1 55), .int (S.1 5008 0), .int (S.1 5009 0), .int (S.1 5010 0), .int (S.1 5011 0), .ref (e.2.2.1 56), .ref (e.2.2.1 57), .ref (e.2.2.1 58), .int (S.1 5015 0), .ref (e.2.2.1 59), .ref (e.2.2.1 60), .ref (e.2.2.1 61)].set 0 (.long v))) = WW e (setL S 1 v) := rfl
theorem p_49_2 (e : GE) (S : St) (v : Int32) : (WW e S).set 49 (e.2.2.1 49, .inr (7, [.long (S.2 1), .ref (e.2.2.1 50), .int (S.1 5002 0), .ref (e.2.2.1 51), .ref (e.2.2.1 52), .ref (e.2.2.1 53), .ref (e.2.2.1 54), .ref (e.2.2.1 55), .int (S.1 5008 0), .int (S.1 5009 0), .int (S.1 5010 0), .int (S.1 5011 0), .ref (e.2.2.1 56), .ref (e.2.2.1 57), .ref (e.2.2.1 58), .int (S.1 5015 0), .ref (e.2.2.1 59), .ref (e.2.2.1 60), .ref (e.2.2.1 61)].set 2 (.int v))) = WW e (setI S 5002 v) := rfl
theorem p_49_8 (e : GE) (S : St) (v : Int32) : (WW e S).set 49 (e.2.2.1 49, .inr (7, [.long (S.2 1), .ref (e.2.2.1 50), .int (S.1 5002 0), .ref (e.2.2.1 51), .ref (e.2.2.1 52), .ref (e.2.2.1 53), .ref (e.2.2.1 54), .ref (e.2.2.1 55), .int (S.1 5008 0), .int (S.1 5009 0), .int (S.1 5010 0), .int (S.1 5011 0), .ref (e.2.2.1 56), .ref (e.2.2.1 57), .ref (e.2.2.1 58), .int (S.1 5015 0), .ref (e.2.2.1 59), .ref (e.2.2.1 60), .ref (e.2.2.1 61)].set 8 (.int v))) = WW e (setI S 5008 v) := rfl
theorem p_49_9 (e : GE) (S : St) (v : Int32) : (WW e S).set 49 (e.2.2.1 49, .inr (7, [.long (S.2 1), .ref (e.2.2.1 50), .int (S.1 5002 0), .ref (e.2.2.1 51), .ref (e.2.2.1 52), .ref (e.2.2.1 53), .ref (e.2.2.1 54), .ref (e.2.2.1 55), .int (S.1 5008 0), .int (S.1 5009 0), .int (S.1 5010 0), .int (S.1 5011 0), .ref (e.2.2.1 56), .ref (e.2.2.1 57), .ref (e.2.2.1 58), .int (S.1 5015 0), .ref (e.2.2.1 59), .ref (e.2.2.1 60), .ref (e.2.2.1 61)].set 9 (.int v))) = WW e (setI S 5009 v) := rfl
theorem p_49_10 (e : GE) (S : St) (v : Int32) : (WW e S).set 49 (e.2.2.1 49, .inr (7, [.long (S.2 1), .ref (e.2.2.1 50), .int (S.1 5002 0), .ref (e.2.2.1 51), .ref (e.2.2.1 52), .ref (e.2.2.1 53), .ref (e.2.2.1 54), .ref (e.2.2.1 55), .int (S.1 5008 0), .int (S.1 5009 0), .int (S.1 5010 0), .int (S.1 5011 0), .ref (e.2.2.1 56), .ref (e.2.2.1 57), .ref (e.2.2.1 58), .int (S.1 5015 0), .ref (e.2.2.1 59), .ref (e.2.2.1 60), .ref (e.2.2.1 61)].set 10 (.int v))) = WW e (setI S 5010 v) := rfl
theorem p_49_11 (e : GE) (S : St) (v : Int32) : (WW e S).set 49 (e.2.2.1 49, .inr (7, [.long (S.2 1), .ref (e.2.2.1 50), .int (S.1 5002 0), .ref (e.2.2.1 51), .ref (e.2.2.1 52), .ref (e.2.2.1 53), .ref (e.2.2.1 54), .ref (e.2.2.1 55), .int (S.1 5008 0), .int (S.1 5009 0), .int (S.1 5010 0), .int (S.1 5011 0), .ref (e.2.2.1 56), .ref (e.2.2.1 57), .ref (e.2.2.1 58), .int (S.1 5015 0), .ref (e.2.2.1 59), .ref (e.2.2.1 60), .ref (e.2.2.1 61)].set 11 (.int v))) = WW e (setI S 5011 v) := rfl
theorem p_49_15 (e : GE) (S : St) (v : Int32) : (WW e S).set 49 (e.2.2.1 49, .inr (7, [.long (S.2 1), .ref (e.2.2.1 50), .int (S.1 5002 0), .ref (e.2.2.1 51), .ref (e.2.2.1 52), .ref (e.2.2.1 53), .ref (e.2.2.1 54), .ref (e.2.2.1 55), .int (S.1 5008 0), .int (S.1 5009 0), .int (S.1 5010 0), .int (S.1 5011 0), .ref (e.2.2.1 56), .ref (e.2.2.1 57), .ref (e.2.2.1 58), .int (S.1 5015 0), .ref (e.2.2.1 59), .ref (e.2.2.1 60), .ref (e.2.2.1 61)].set 15 (.int v))) = WW e (setI S 5015 v) := rfl
theorem a_50 (e : GE) (S : St) : (WW e S)[50]? = some (e.2.2.1 50, .inl (e.2.1 0, 300, .inl (S.1 50))) := rfl
theorem aw_50 (e : GE) (S : St) (f : Nat → Int32) : (WW e S).set 50 (e.2.2.1 50, .inl (e.2.1 0, 300, .inl f)) = WW e (setA S 50 f) := rfl
theorem a_51 (e : GE) (S : St) : (WW e S)[51]? = some (e.2.2.1 51, .inl (e.2.1 0, 47, .inl (S.1 51))) := rfl
theorem aw_51 (e : GE) (S : St) (f : Nat → Int32) : (WW e S).set 51 (e.2.2.1 51, .inl (e.2.1 0, 47, .inl f)) = WW e (setA S 51 f) := rfl
theorem a_52 (e : GE) (S : St) : (WW e S)[52]? = some (e.2.2.1 52, .inl (e.2.1 0, 47, .inl (S.1 52))) := rfl
theorem aw_52 (e : GE) (S : St) (f : Nat → Int32) : (WW e S).set 52 (e.2.2.1 52, .inl (e.2.1 0, 47, .inl f)) = WW e (setA S 52 f) := rfl
theorem a_53 (e : GE) (S : St) : (WW e S)[53]? = some (e.2.2.1 53, .inl (e.2.1 0, 55, .inl (S.1 53))) := rfl
theorem aw_53 (e : GE) (S : St) (f : Nat → Int32) : (WW e S).set 53 (e.2.2.1 53, .inl (e.2.1 0, 55, .inl f)) = WW e (setA S 53 f) := rfl
theorem a_54 (e : GE) (S : St) : (WW e S)[54]? = some (e.2.2.1 54, .inl (e.2.1 0, 110, .inl (S.1 54))) := rfl
theorem aw_54 (e : GE) (S : St) (f : Nat → Int32) : (WW e S).set 54 (e.2.2.1 54, .inl (e.2.1 0, 110, .inl f)) = WW e (setA S 54 f) := rfl
theorem a_55 (e : GE) (S : St) : (WW e S)[55]? = some (e.2.2.1 55, .inl (e.2.1 2, 2, .inl (S.1 55))) := rfl
theorem aw_55 (e : GE) (S : St) (f : Nat → Int32) : (WW e S).set 55 (e.2.2.1 55, .inl (e.2.1 2, 2, .inl f)) = WW e (setA S 55 f) := rfl
theorem a_56 (e : GE) (S : St) : (WW e S)[56]? = some (e.2.2.1 56, .inl (e.2.1 0, 6, .inl (S.1 56))) := rfl
theorem aw_56 (e : GE) (S : St) (f : Nat → Int32) : (WW e S).set 56 (e.2.2.1 56, .inl (e.2.1 0, 6, .inl f)) = WW e (setA S 56 f) := rfl
theorem a_57 (e : GE) (S : St) : (WW e S)[57]? = some (e.2.2.1 57, .inl (e.2.1 0, 60, .inl (S.1 57))) := rfl
theorem aw_57 (e : GE) (S : St) (f : Nat → Int32) : (WW e S).set 57 (e.2.2.1 57, .inl (e.2.1 0, 60, .inl f)) = WW e (setA S 57 f) := rfl
theorem a_58 (e : GE) (S : St) : (WW e S)[58]? = some (e.2.2.1 58, .inl (e.2.1 0, 6, .inl (S.1 58))) := rfl
theorem aw_58 (e : GE) (S : St) (f : Nat → Int32) : (WW e S).set 58 (e.2.2.1 58, .inl (e.2.1 0, 6, .inl f)) = WW e (setA S 58 f) := rfl
theorem a_59 (e : GE) (S : St) : (WW e S)[59]? = some (e.2.2.1 59, .inl (e.2.1 0, 2400, .inl (S.1 59))) := rfl
theorem aw_59 (e : GE) (S : St) (f : Nat → Int32) : (WW e S).set 59 (e.2.2.1 59, .inl (e.2.1 0, 2400, .inl f)) = WW e (setA S 59 f) := rfl
theorem a_60 (e : GE) (S : St) : (WW e S)[60]? = some (e.2.2.1 60, .inl (e.2.1 0, 6, .inl (S.1 60))) := rfl
theorem aw_60 (e : GE) (S : St) (f : Nat → Int32) : (WW e S).set 60 (e.2.2.1 60, .inl (e.2.1 0, 6, .inl f)) = WW e (setA S 60 f) := rfl
theorem a_61 (e : GE) (S : St) : (WW e S)[61]? = some (e.2.2.1 61, .inl (e.2.1 0, 6, .inl (S.1 61))) := rfl
theorem aw_61 (e : GE) (S : St) (f : Nat → Int32) : (WW e S).set 61 (e.2.2.1 61, .inl (e.2.1 0, 6, .inl f)) = WW e (setA S 61 f) := rfl
theorem q1_2 : (Cond.initialized RX6) ∈ wsL_law := in_r1 _ (List.mem_of_getElem? (i := 2) rfl)
theorem q1_5 : (Cond.initialized RX7) ∈ wsL_law := in_r1 _ (List.mem_of_getElem? (i := 5) rfl)
theorem q1_10 : (Cond.methodLink RX6 3 objectInit) ∈ wsL_law := in_r1 _ (List.mem_of_getElem? (i := 10) rfl)
theorem q1_11 : (Cond.instanceMethod objectInit) ∈ wsL_law := in_r1 _ (List.mem_of_getElem? (i := 11) rfl)
theorem q1_12 : (Cond.code objectInit ⟨#[0xb1]⟩ 1 none) ∈ wsL_law := in_r1 _ (List.mem_of_getElem? (i := 12) rfl)
theorem q1_13 : (Cond.classLink RX6 9 RX3) ∈ wsL_law := in_r1 _ (List.mem_of_getElem? (i := 13) rfl)
theorem q1_14 : (Cond.instantiable RX3 6) ∈ wsL_law := in_r1 _ (List.mem_of_getElem? (i := 14) rfl)
theorem q1_15 : (Cond.initialized RX3) ∈ wsL_law := in_r1 _ (List.mem_of_getElem? (i := 15) rfl)
theorem q1_16 : (Cond.fieldLink RX6 12 "LeanedBars" "reader" "LLeanedBars$Reader;") ∈ wsL_law := in_r1 _ (List.mem_of_getElem? (i := 16) rfl)
theorem q1_17 : (Cond.fieldLink RX6 16 "LeanedBars$Reader" "text" "LLeanedBars$Text;") ∈ wsL_law := in_r1 _ (List.mem_of_getElem? (i := 17) rfl)
theorem q1_18 : (Cond.fieldLink RX6 20 "LeanedBars" "text" "LLeanedBars$Text;") ∈ wsL_law := in_r1 _ (List.mem_of_getElem? (i := 18) rfl)
theorem q1_19 : (Cond.classLink RX6 21 RX2) ∈ wsL_law := in_r1 _ (List.mem_of_getElem? (i := 19) rfl)
theorem q1_20 : (Cond.instantiable RX2 9) ∈ wsL_law := in_r1 _ (List.mem_of_getElem? (i := 20) rfl)
theorem q1_21 : (Cond.initialized RX2) ∈ wsL_law := in_r1 _ (List.mem_of_getElem? (i := 21) rfl)
theorem q1_22 : (Cond.fieldLink RX6 24 "LeanedBars" "railings" "LLeanedBars$Railings;") ∈ wsL_law := in_r1 _ (List.mem_of_getElem? (i := 22) rfl)
theorem q1_23 : (Cond.classLink RX6 28 RX1) ∈ wsL_law := in_r1 _ (List.mem_of_getElem? (i := 23) rfl)
theorem q2_0 : (Cond.instantiable RX1 6) ∈ wsL_law := in_r2 _ (List.mem_of_getElem? (i := 0) rfl)
theorem q2_1 : (Cond.initialized RX1) ∈ wsL_law := in_r2 _ (List.mem_of_getElem? (i := 1) rfl)
theorem q2_2 : (Cond.fieldLink RX6 31 "LeanedBars" "now" "LLeanedBars$Now;") ∈ wsL_law := in_r2 _ (List.mem_of_getElem? (i := 2) rfl)
theorem q2_3 : (Cond.fieldLink RX6 35 "LeanedBars" "images" "[LLeanedBars$Now;") ∈ wsL_law := in_r2 _ (List.mem_of_getElem? (i := 3) rfl)
theorem q2_4 : (Cond.arrayClass .boolean) ∈ wsL_law := in_r2 _ (List.mem_of_getElem? (i := 4) rfl)
theorem q2_5 : (Cond.fieldLink RX6 39 "LeanedBars" "kept" "[Z") ∈ wsL_law := in_r2 _ (List.mem_of_getElem? (i := 5) rfl)
theorem q2_6 : (Cond.classLink RX6 43 RX5) ∈ wsL_law := in_r2 _ (List.mem_of_getElem? (i := 6) rfl)
theorem q2_7 : (Cond.instantiable RX5 9) ∈ wsL_law := in_r2 _ (List.mem_of_getElem? (i := 7) rfl)
theorem q2_8 : (Cond.initialized RX5) ∈ wsL_law := in_r2 _ (List.mem_of_getElem? (i := 8) rfl)
theorem q2_9 : (Cond.fieldLink RX6 46 "LeanedBars" "ways" "LLeanedBars$Ways;") ∈ wsL_law := in_r2 _ (List.mem_of_getElem? (i := 9) rfl)
theorem q2_10 : (Cond.classLink RX6 50 RX0) ∈ wsL_law := in_r2 _ (List.mem_of_getElem? (i := 10) rfl)
theorem q2_11 : (Cond.instantiable RX0 3) ∈ wsL_law := in_r2 _ (List.mem_of_getElem? (i := 11) rfl)
theorem q2_12 : (Cond.initialized RX0) ∈ wsL_law := in_r2 _ (List.mem_of_getElem? (i := 12) rfl)
theorem q2_13 : (Cond.fieldLink RX6 53 "LeanedBars" "exchanges" "LLeanedBars$Exchanges;") ∈ wsL_law := in_r2 _ (List.mem_of_getElem? (i := 13) rfl)
theorem q2_14 : (Cond.fieldLink RX6 57 "LeanedBars" "traced" "J") ∈ wsL_law := in_r2 _ (List.mem_of_getElem? (i := 14) rfl)
theorem q2_15 : (Cond.instanceMethod yX3_init) ∈ wsL_law := in_r2 _ (List.mem_of_getElem? (i := 15) rfl)
theorem q2_16 : (Cond.code yX3_init cX3_init 1 none) ∈ wsL_law := in_r2 _ (List.mem_of_getElem? (i := 16) rfl)
theorem q2_17 : (Cond.methodLink RX3 3 objectInit) ∈ wsL_law := in_r2 _ (List.mem_of_getElem? (i := 17) rfl)
theorem q2_18 : (Cond.classLink RX3 9 RX4) ∈ wsL_law := in_r2 _ (List.mem_of_getElem? (i := 18) rfl)
theorem q2_19 : (Cond.instantiable RX4 2) ∈ wsL_law := in_r2 _ (List.mem_of_getElem? (i := 19) rfl)
theorem q2_20 : (Cond.initialized RX4) ∈ wsL_law := in_r2 _ (List.mem_of_getElem? (i := 20) rfl)
theorem q2_21 : (Cond.fieldLink RX3 12 "LeanedBars$Reader" "text" "LLeanedBars$Text;") ∈ wsL_law := in_r2 _ (List.mem_of_getElem? (i := 21) rfl)
theorem q2_22 : (Cond.classLink RX3 18 RX2) ∈ wsL_law := in_r2 _ (List.mem_of_getElem? (i := 22) rfl)
theorem q2_23 : (Cond.fieldLink RX3 21 "LeanedBars$Reader" "told" "LLeanedBars$Railings;") ∈ wsL_law := in_r2 _ (List.mem_of_getElem? (i := 23) rfl)
theorem q3_0 : (Cond.fieldLink RX3 25 "LeanedBars$Reader" "kind" "I") ∈ wsL_law := in_r3 _ (List.mem_of_getElem? (i := 0) rfl)
theorem q3_1 : (Cond.fieldLink RX3 29 "LeanedBars$Reader" "at" "I") ∈ wsL_law := in_r3 _ (List.mem_of_getElem? (i := 1) rfl)
theorem q3_2 : (Cond.fieldLink RX3 32 "LeanedBars$Reader" "behind" "I") ∈ wsL_law := in_r3 _ (List.mem_of_getElem? (i := 2) rfl)
theorem q3_3 : (Cond.fieldLink RX3 35 "LeanedBars$Reader" "number" "I") ∈ wsL_law := in_r3 _ (List.mem_of_getElem? (i := 3) rfl)
theorem q3_4 : (Cond.instanceMethod yX4_init) ∈ wsL_law := in_r3 _ (List.mem_of_getElem? (i := 4) rfl)
theorem q3_5 : (Cond.code yX4_init cX4_init 1 none) ∈ wsL_law := in_r3 _ (List.mem_of_getElem? (i := 5) rfl)
theorem q3_6 : (Cond.methodLink RX4 3 objectInit) ∈ wsL_law := in_r3 _ (List.mem_of_getElem? (i := 6) rfl)
theorem q3_7 : (Cond.arrayClass .byte) ∈ wsL_law := in_r3 _ (List.mem_of_getElem? (i := 7) rfl)
theorem q3_8 : (Cond.fieldLink RX4 9 "LeanedBars$Text" "bytes" "[B") ∈ wsL_law := in_r3 _ (List.mem_of_getElem? (i := 8) rfl)
theorem q3_9 : (Cond.fieldLink RX4 15 "LeanedBars$Text" "length" "I") ∈ wsL_law := in_r3 _ (List.mem_of_getElem? (i := 9) rfl)
theorem q3_10 : (Cond.methodLink RX3 20 yX2_init) ∈ wsL_law := in_r3 _ (List.mem_of_getElem? (i := 10) rfl)
theorem q3_11 : (Cond.instanceMethod yX2_init) ∈ wsL_law := in_r3 _ (List.mem_of_getElem? (i := 11) rfl)
theorem q3_12 : (Cond.code yX2_init cX2_init 1 none) ∈ wsL_law := in_r3 _ (List.mem_of_getElem? (i := 12) rfl)
theorem q3_13 : (Cond.methodLink RX2 3 objectInit) ∈ wsL_law := in_r3 _ (List.mem_of_getElem? (i := 13) rfl)
theorem q3_14 : (Cond.fieldLink RX2 9 "LeanedBars$Railings" "bars" "I") ∈ wsL_law := in_r3 _ (List.mem_of_getElem? (i := 14) rfl)
theorem q3_15 : (Cond.fieldLink RX2 15 "LeanedBars$Railings" "people" "I") ∈ wsL_law := in_r3 _ (List.mem_of_getElem? (i := 15) rfl)
theorem q3_16 : (Cond.fieldLink RX2 18 "LeanedBars$Railings" "paints" "I") ∈ wsL_law := in_r3 _ (List.mem_of_getElem? (i := 16) rfl)
theorem q3_17 : (Cond.arrayClass .int) ∈ wsL_law := in_r3 _ (List.mem_of_getElem? (i := 17) rfl)
theorem q3_18 : (Cond.fieldLink RX2 21 "LeanedBars$Railings" "metals" "[I") ∈ wsL_law := in_r3 _ (List.mem_of_getElem? (i := 18) rfl)
theorem q3_19 : (Cond.fieldLink RX2 25 "LeanedBars$Railings" "grips" "[I") ∈ wsL_law := in_r3 _ (List.mem_of_getElem? (i := 19) rfl)
theorem q3_20 : (Cond.fieldLink RX2 28 "LeanedBars$Railings" "rains" "[I") ∈ wsL_law := in_r3 _ (List.mem_of_getElem? (i := 20) rfl)
theorem q3_21 : (Cond.fieldLink RX2 31 "LeanedBars$Railings" "paintedBars" "[I") ∈ wsL_law := in_r3 _ (List.mem_of_getElem? (i := 21) rfl)
theorem q3_22 : (Cond.fieldLink RX2 34 "LeanedBars$Railings" "paintedYears" "[I") ∈ wsL_law := in_r3 _ (List.mem_of_getElem? (i := 22) rfl)
theorem q3_23 : (Cond.fieldLink RX2 37 "LeanedBars$Railings" "lastings" "[I") ∈ wsL_law := in_r3 _ (List.mem_of_getElem? (i := 23) rfl)
theorem q4_0 : (Cond.methodLink RX2 40 yJ7_fill_53178) ∈ wsL_law := in_r4 _ (List.mem_of_getElem? (i := 0) rfl)
theorem q4_1 : (Cond.static yJ7_fill_53178) ∈ wsL_law := in_r4 _ (List.mem_of_getElem? (i := 1) rfl)
theorem q4_2 : (Cond.initialized RJ7) ∈ wsL_law := in_r4 _ (List.mem_of_getElem? (i := 2) rfl)
theorem q4_3 : (Cond.code yJ7_fill_53178 cJ7_fill_53178 4 none) ∈ wsL_law := in_r4 _ (List.mem_of_getElem? (i := 3) rfl)
theorem q4_4 : (Cond.methodLink RX6 23 yX2_init) ∈ wsL_law := in_r4 _ (List.mem_of_getElem? (i := 4) rfl)
theorem q4_5 : (Cond.methodLink RX6 30 yX1_init) ∈ wsL_law := in_r4 _ (List.mem_of_getElem? (i := 5) rfl)
theorem q4_6 : (Cond.instanceMethod yX1_init) ∈ wsL_law := in_r4 _ (List.mem_of_getElem? (i := 6) rfl)
theorem q4_7 : (Cond.code yX1_init cX1_init 1 none) ∈ wsL_law := in_r4 _ (List.mem_of_getElem? (i := 7) rfl)
theorem q4_8 : (Cond.methodLink RX1 3 objectInit) ∈ wsL_law := in_r4 _ (List.mem_of_getElem? (i := 8) rfl)
theorem q4_9 : (Cond.fieldLink RX1 9 "LeanedBars$Now" "size" "I") ∈ wsL_law := in_r4 _ (List.mem_of_getElem? (i := 9) rfl)
theorem q4_10 : (Cond.fieldLink RX1 15 "LeanedBars$Now" "people" "[I") ∈ wsL_law := in_r4 _ (List.mem_of_getElem? (i := 10) rfl)
theorem q4_11 : (Cond.fieldLink RX1 19 "LeanedBars$Now" "bars" "[I") ∈ wsL_law := in_r4 _ (List.mem_of_getElem? (i := 11) rfl)
theorem q4_12 : (Cond.fieldLink RX1 22 "LeanedBars$Now" "firsts" "[I") ∈ wsL_law := in_r4 _ (List.mem_of_getElem? (i := 12) rfl)
theorem q4_13 : (Cond.fieldLink RX1 25 "LeanedBars$Now" "lengths" "[I") ∈ wsL_law := in_r4 _ (List.mem_of_getElem? (i := 13) rfl)
theorem q4_14 : (Cond.fieldLink RX1 28 "LeanedBars$Now" "sights" "[I") ∈ wsL_law := in_r4 _ (List.mem_of_getElem? (i := 14) rfl)
theorem q4_15 : (Cond.methodLink RX1 31 yJ7_fill_53178) ∈ wsL_law := in_r4 _ (List.mem_of_getElem? (i := 15) rfl)
theorem q4_16 : (Cond.instanceMethod yX5_init) ∈ wsL_law := in_r4 _ (List.mem_of_getElem? (i := 16) rfl)
theorem q4_17 : (Cond.code yX5_init cX5_init 1 none) ∈ wsL_law := in_r4 _ (List.mem_of_getElem? (i := 17) rfl)
theorem q4_18 : (Cond.methodLink RX5 3 objectInit) ∈ wsL_law := in_r4 _ (List.mem_of_getElem? (i := 18) rfl)
theorem q4_19 : (Cond.fieldLink RX5 9 "LeanedBars$Ways" "bars" "I") ∈ wsL_law := in_r4 _ (List.mem_of_getElem? (i := 19) rfl)
theorem q4_20 : (Cond.fieldLink RX5 15 "LeanedBars$Ways" "people" "I") ∈ wsL_law := in_r4 _ (List.mem_of_getElem? (i := 20) rfl)
theorem q4_21 : (Cond.fieldLink RX5 18 "LeanedBars$Ways" "isSeen" "[Z") ∈ wsL_law := in_r4 _ (List.mem_of_getElem? (i := 21) rfl)
theorem q4_22 : (Cond.fieldLink RX5 22 "LeanedBars$Ways" "needs" "[I") ∈ wsL_law := in_r4 _ (List.mem_of_getElem? (i := 22) rfl)
theorem q4_23 : (Cond.fieldLink RX5 26 "LeanedBars$Ways" "grips" "[I") ∈ wsL_law := in_r4 _ (List.mem_of_getElem? (i := 23) rfl)
theorem q5_0 : (Cond.fieldLink RX5 29 "LeanedBars$Ways" "dryWinters" "[I") ∈ wsL_law := in_r5 _ (List.mem_of_getElem? (i := 0) rfl)
theorem q5_1 : (Cond.fieldLink RX5 32 "LeanedBars$Ways" "fitting" "[I") ∈ wsL_law := in_r5 _ (List.mem_of_getElem? (i := 1) rfl)
theorem q5_2 : (Cond.fieldLink RX5 35 "LeanedBars$Ways" "gathered" "[I") ∈ wsL_law := in_r5 _ (List.mem_of_getElem? (i := 2) rfl)
theorem q5_3 : (Cond.fieldLink RX5 38 "LeanedBars$Ways" "tally" "[I") ∈ wsL_law := in_r5 _ (List.mem_of_getElem? (i := 3) rfl)
theorem q5_4 : (Cond.instanceMethod yX0_init) ∈ wsL_law := in_r5 _ (List.mem_of_getElem? (i := 4) rfl)
theorem q5_5 : (Cond.code yX0_init cX0_init 1 none) ∈ wsL_law := in_r5 _ (List.mem_of_getElem? (i := 5) rfl)
theorem q5_6 : (Cond.methodLink RX0 3 objectInit) ∈ wsL_law := in_r5 _ (List.mem_of_getElem? (i := 6) rfl)
theorem q5_7 : (Cond.fieldLink RX0 9 "LeanedBars$Exchanges" "size" "I") ∈ wsL_law := in_r5 _ (List.mem_of_getElem? (i := 7) rfl)
theorem q5_8 : (Cond.fieldLink RX0 15 "LeanedBars$Exchanges" "rusts" "[I") ∈ wsL_law := in_r5 _ (List.mem_of_getElem? (i := 8) rfl)
theorem q5_9 : (Cond.fieldLink RX0 19 "LeanedBars$Exchanges" "wanted" "[I") ∈ wsL_law := in_r5 _ (List.mem_of_getElem? (i := 9) rfl)
theorem q5_14 : (Cond.fieldLink RX7 7 "LeanedBarsModel" "text" "[I") ∈ wsL_law := in_r5 _ (List.mem_of_getElem? (i := 14) rfl)
theorem q5_15 : (Cond.fieldLink RX7 13 "LeanedBarsModel" "told" "[I") ∈ wsL_law := in_r5 _ (List.mem_of_getElem? (i := 15) rfl)
theorem q5_16 : (Cond.fieldLink RX7 16 "LeanedBarsModel" "draft" "[I") ∈ wsL_law := in_r5 _ (List.mem_of_getElem? (i := 16) rfl)
theorem q5_17 : (Cond.fieldLink RX7 19 "LeanedBarsModel" "s" "[I") ∈ wsL_law := in_r5 _ (List.mem_of_getElem? (i := 17) rfl)
theorem q5_18 : (Cond.fieldLink RX7 22 "LeanedBarsModel" "images" "[I") ∈ wsL_law := in_r5 _ (List.mem_of_getElem? (i := 18) rfl)
theorem q5_19 : (Cond.fieldLink RX7 25 "LeanedBarsModel" "kept" "[Z") ∈ wsL_law := in_r5 _ (List.mem_of_getElem? (i := 19) rfl)
theorem q5_20 : (Cond.fieldLink RX7 29 "LeanedBarsModel" "base" "[I") ∈ wsL_law := in_r5 _ (List.mem_of_getElem? (i := 20) rfl)
theorem q5_21 : (Cond.fieldLink RX7 32 "LeanedBarsModel" "dry" "[I") ∈ wsL_law := in_r5 _ (List.mem_of_getElem? (i := 21) rfl)
theorem q5_22 : (Cond.fieldLink RX7 35 "LeanedBarsModel" "here" "[I") ∈ wsL_law := in_r5 _ (List.mem_of_getElem? (i := 22) rfl)
theorem q5_23 : (Cond.fieldLink RX7 38 "LeanedBarsModel" "many" "[I") ∈ wsL_law := in_r5 _ (List.mem_of_getElem? (i := 23) rfl)
theorem q6_0 : (Cond.fieldLink RX7 41 "LeanedBarsModel" "spots" "[I") ∈ wsL_law := in_r6 _ (List.mem_of_getElem? (i := 0) rfl)
theorem q6_1 : (Cond.fieldLink RX7 44 "LeanedBarsModel" "row" "[I") ∈ wsL_law := in_r6 _ (List.mem_of_getElem? (i := 1) rfl)
theorem q6_2 : (Cond.methodLink RX7 47 yX7_reads) ∈ wsL_law := in_r6 _ (List.mem_of_getElem? (i := 2) rfl)
theorem q6_3 : (Cond.instanceMethod yX7_reads) ∈ wsL_law := in_r6 _ (List.mem_of_getElem? (i := 3) rfl)
theorem q6_4 : (Cond.selects RX7 yX7_reads yX7_reads) ∈ wsL_law := in_r6 _ (List.mem_of_getElem? (i := 4) rfl)
theorem q6_5 : (Cond.code yX7_reads cX7_reads 2 (some .boolean)) ∈ wsL_law := in_r6 _ (List.mem_of_getElem? (i := 5) rfl)
theorem q6_6 : (Cond.fieldLink RX7 64 "LeanedBarsModel" "at" "I") ∈ wsL_law := in_r6 _ (List.mem_of_getElem? (i := 6) rfl)
theorem q6_7 : (Cond.fieldLink RX7 77 "LeanedBarsModel" "sort" "I") ∈ wsL_law := in_r6 _ (List.mem_of_getElem? (i := 7) rfl)
theorem q6_8 : (Cond.methodLink RX7 54 yX7_in) ∈ wsL_law := in_r6 _ (List.mem_of_getElem? (i := 8) rfl)
theorem q6_9 : (Cond.static yX7_in) ∈ wsL_law := in_r6 _ (List.mem_of_getElem? (i := 9) rfl)
theorem q6_10 : (Cond.code yX7_in cX7_in 3 (some .boolean)) ∈ wsL_law := in_r6 _ (List.mem_of_getElem? (i := 10) rfl)
theorem q6_11 : (Cond.methodLink RX7 93 yX7_token) ∈ wsL_law := in_r6 _ (List.mem_of_getElem? (i := 11) rfl)
theorem q6_12 : (Cond.instanceMethod yX7_token) ∈ wsL_law := in_r6 _ (List.mem_of_getElem? (i := 12) rfl)
theorem q6_13 : (Cond.selects RX7 yX7_token yX7_token) ∈ wsL_law := in_r6 _ (List.mem_of_getElem? (i := 13) rfl)
theorem q6_14 : (Cond.code yX7_token cX7_token 1 none) ∈ wsL_law := in_r6 _ (List.mem_of_getElem? (i := 14) rfl)
theorem q6_15 : (Cond.fieldLink RX7 71 "LeanedBarsModel" "start" "I") ∈ wsL_law := in_r6 _ (List.mem_of_getElem? (i := 15) rfl)
theorem q6_16 : (Cond.fieldLink RX7 80 "LeanedBarsModel" "size" "I") ∈ wsL_law := in_r6 _ (List.mem_of_getElem? (i := 16) rfl)
theorem q6_17 : (Cond.methodLink RX7 67 yX7_byteAt) ∈ wsL_law := in_r6 _ (List.mem_of_getElem? (i := 17) rfl)
theorem q6_18 : (Cond.instanceMethod yX7_byteAt) ∈ wsL_law := in_r6 _ (List.mem_of_getElem? (i := 18) rfl)
theorem q6_19 : (Cond.selects RX7 yX7_byteAt yX7_byteAt) ∈ wsL_law := in_r6 _ (List.mem_of_getElem? (i := 19) rfl)
theorem q6_20 : (Cond.code yX7_byteAt cX7_byteAt 2 (some .int)) ∈ wsL_law := in_r6 _ (List.mem_of_getElem? (i := 20) rfl)
theorem q6_21 : (Cond.fieldLink RX7 58 "LeanedBarsModel" "typed" "I") ∈ wsL_law := in_r6 _ (List.mem_of_getElem? (i := 21) rfl)
theorem q6_22 : (Cond.methodLink RX7 74 yX7_sortOf) ∈ wsL_law := in_r6 _ (List.mem_of_getElem? (i := 22) rfl)
theorem q6_23 : (Cond.static yX7_sortOf) ∈ wsL_law := in_r6 _ (List.mem_of_getElem? (i := 23) rfl)
theorem q7_0 : (Cond.code yX7_sortOf cX7_sortOf 1 (some .int)) ∈ wsL_law := in_r7 _ (List.mem_of_getElem? (i := 0) rfl)
theorem q7_1 : (Cond.methodLink RX7 112 yX7_verb) ∈ wsL_law := in_r7 _ (List.mem_of_getElem? (i := 1) rfl)
theorem q7_2 : (Cond.instanceMethod yX7_verb) ∈ wsL_law := in_r7 _ (List.mem_of_getElem? (i := 2) rfl)
theorem q7_3 : (Cond.selects RX7 yX7_verb yX7_verb) ∈ wsL_law := in_r7 _ (List.mem_of_getElem? (i := 3) rfl)
theorem q7_4 : (Cond.code yX7_verb cX7_verb 4 (some .int)) ∈ wsL_law := in_r7 _ (List.mem_of_getElem? (i := 4) rfl)
theorem q7_5 : (Cond.constantLong RX7 83 (256)) ∈ wsL_law := in_r7 _ (List.mem_of_getElem? (i := 5) rfl)
theorem q7_6 : (Cond.constantLong RX7 85 (6447474)) ∈ wsL_law := in_r7 _ (List.mem_of_getElem? (i := 6) rfl)
theorem q7_7 : (Cond.constantLong RX7 87 (123581014175598)) ∈ wsL_law := in_r7 _ (List.mem_of_getElem? (i := 7) rfl)
theorem q7_8 : (Cond.constantLong RX7 89 (1918986606)) ∈ wsL_law := in_r7 _ (List.mem_of_getElem? (i := 8) rfl)
theorem q7_9 : (Cond.constantLong RX7 91 (482670636660)) ∈ wsL_law := in_r7 _ (List.mem_of_getElem? (i := 9) rfl)
theorem q7_10 : (Cond.methodLink RX7 116 yX7_readsItem) ∈ wsL_law := in_r7 _ (List.mem_of_getElem? (i := 10) rfl)
theorem q7_11 : (Cond.instanceMethod yX7_readsItem) ∈ wsL_law := in_r7 _ (List.mem_of_getElem? (i := 11) rfl)
theorem q7_12 : (Cond.selects RX7 yX7_readsItem yX7_readsItem) ∈ wsL_law := in_r7 _ (List.mem_of_getElem? (i := 12) rfl)
theorem q7_13 : (Cond.code yX7_readsItem cX7_readsItem 2 (some .boolean)) ∈ wsL_law := in_r7 _ (List.mem_of_getElem? (i := 13) rfl)
theorem q7_14 : (Cond.methodLink RX7 100 yX7_readsBar) ∈ wsL_law := in_r7 _ (List.mem_of_getElem? (i := 14) rfl)
theorem q7_15 : (Cond.instanceMethod yX7_readsBar) ∈ wsL_law := in_r7 _ (List.mem_of_getElem? (i := 15) rfl)
theorem q7_16 : (Cond.selects RX7 yX7_readsBar yX7_readsBar) ∈ wsL_law := in_r7 _ (List.mem_of_getElem? (i := 16) rfl)
theorem q7_17 : (Cond.code yX7_readsBar cX7_readsBar 2 (some .boolean)) ∈ wsL_law := in_r7 _ (List.mem_of_getElem? (i := 17) rfl)
theorem q7_18 : (Cond.methodLink RX7 96 yX7_figure) ∈ wsL_law := in_r7 _ (List.mem_of_getElem? (i := 18) rfl)
theorem q7_19 : (Cond.instanceMethod yX7_figure) ∈ wsL_law := in_r7 _ (List.mem_of_getElem? (i := 19) rfl)
theorem q7_20 : (Cond.selects RX7 yX7_figure yX7_figure) ∈ wsL_law := in_r7 _ (List.mem_of_getElem? (i := 20) rfl)
theorem q7_21 : (Cond.code yX7_figure cX7_figure 4 (some .int)) ∈ wsL_law := in_r7 _ (List.mem_of_getElem? (i := 21) rfl)
theorem q7_22 : (Cond.methodLink RX7 103 yX7_readsPerson) ∈ wsL_law := in_r7 _ (List.mem_of_getElem? (i := 22) rfl)
theorem q7_23 : (Cond.instanceMethod yX7_readsPerson) ∈ wsL_law := in_r7 _ (List.mem_of_getElem? (i := 23) rfl)
theorem q8_0 : (Cond.selects RX7 yX7_readsPerson yX7_readsPerson) ∈ wsL_law := in_r8 _ (List.mem_of_getElem? (i := 0) rfl)
theorem q8_1 : (Cond.code yX7_readsPerson cX7_readsPerson 2 (some .boolean)) ∈ wsL_law := in_r8 _ (List.mem_of_getElem? (i := 1) rfl)
theorem q8_2 : (Cond.methodLink RX7 106 yX7_readsRain) ∈ wsL_law := in_r8 _ (List.mem_of_getElem? (i := 2) rfl)
theorem q8_3 : (Cond.instanceMethod yX7_readsRain) ∈ wsL_law := in_r8 _ (List.mem_of_getElem? (i := 3) rfl)
theorem q8_4 : (Cond.selects RX7 yX7_readsRain yX7_readsRain) ∈ wsL_law := in_r8 _ (List.mem_of_getElem? (i := 4) rfl)
theorem q8_5 : (Cond.code yX7_readsRain cX7_readsRain 3 (some .boolean)) ∈ wsL_law := in_r8 _ (List.mem_of_getElem? (i := 5) rfl)
theorem q8_6 : (Cond.methodLink RX7 109 yX7_readsPaint) ∈ wsL_law := in_r8 _ (List.mem_of_getElem? (i := 6) rfl)
theorem q8_7 : (Cond.instanceMethod yX7_readsPaint) ∈ wsL_law := in_r8 _ (List.mem_of_getElem? (i := 7) rfl)
theorem q8_8 : (Cond.selects RX7 yX7_readsPaint yX7_readsPaint) ∈ wsL_law := in_r8 _ (List.mem_of_getElem? (i := 8) rfl)
theorem q8_9 : (Cond.code yX7_readsPaint cX7_readsPaint 5 (some .boolean)) ∈ wsL_law := in_r8 _ (List.mem_of_getElem? (i := 9) rfl)
theorem q8_10 : (Cond.methodLink RX7 51 yX7_tells) ∈ wsL_law := in_r8 _ (List.mem_of_getElem? (i := 10) rfl)
theorem q8_11 : (Cond.instanceMethod yX7_tells) ∈ wsL_law := in_r8 _ (List.mem_of_getElem? (i := 11) rfl)
theorem q8_12 : (Cond.selects RX7 yX7_tells yX7_tells) ∈ wsL_law := in_r8 _ (List.mem_of_getElem? (i := 12) rfl)
theorem q8_13 : (Cond.code yX7_tells cX7_tells 2 none) ∈ wsL_law := in_r8 _ (List.mem_of_getElem? (i := 13) rfl)
theorem q8_18 : (Cond.fieldLink RX6 65 "LeanedBars$Text" "length" "I") ∈ wsL_law := in_r8 _ (List.mem_of_getElem? (i := 18) rfl)
theorem q8_19 : (Cond.methodLink RX6 61 yX6_within) ∈ wsL_law := in_r8 _ (List.mem_of_getElem? (i := 19) rfl)
theorem q8_20 : (Cond.static yX6_within) ∈ wsL_law := in_r8 _ (List.mem_of_getElem? (i := 20) rfl)
theorem q8_21 : (Cond.code yX6_within cX6_within 3 (some .boolean)) ∈ wsL_law := in_r8 _ (List.mem_of_getElem? (i := 21) rfl)
theorem q8_22 : (Cond.methodLink RX6 71 yX4_append) ∈ wsL_law := in_r8 _ (List.mem_of_getElem? (i := 22) rfl)
theorem q8_23 : (Cond.instanceMethod yX4_append) ∈ wsL_law := in_r8 _ (List.mem_of_getElem? (i := 23) rfl)
theorem q9_0 : (Cond.selects RX4 yX4_append yX4_append) ∈ wsL_law := in_r9 _ (List.mem_of_getElem? (i := 0) rfl)
theorem q9_1 : (Cond.code yX4_append cX4_append 5 none) ∈ wsL_law := in_r9 _ (List.mem_of_getElem? (i := 1) rfl)
theorem q9_6 : (Cond.constantLong RX7 62 (255)) ∈ wsL_law := in_r9 _ (List.mem_of_getElem? (i := 6) rfl)
theorem q9_19 : (Cond.fieldLink RX6 79 "LeanedBars$Reader" "told" "LLeanedBars$Railings;") ∈ wsL_law := in_r9 _ (List.mem_of_getElem? (i := 19) rfl)
theorem q9_20 : (Cond.methodLink RX6 75 yX3_read) ∈ wsL_law := in_r9 _ (List.mem_of_getElem? (i := 20) rfl)
theorem q9_21 : (Cond.instanceMethod yX3_read) ∈ wsL_law := in_r9 _ (List.mem_of_getElem? (i := 21) rfl)
theorem q9_22 : (Cond.selects RX3 yX3_read yX3_read) ∈ wsL_law := in_r9 _ (List.mem_of_getElem? (i := 22) rfl)
theorem q9_23 : (Cond.code yX3_read cX3_read 3 (some .int)) ∈ wsL_law := in_r9 _ (List.mem_of_getElem? (i := 23) rfl)
theorem q10_0 : (Cond.methodLink RX3 38 yX2_empty) ∈ wsL_law := in_r10 _ (List.mem_of_getElem? (i := 0) rfl)
theorem q10_1 : (Cond.instanceMethod yX2_empty) ∈ wsL_law := in_r10 _ (List.mem_of_getElem? (i := 1) rfl)
theorem q10_2 : (Cond.selects RX2 yX2_empty yX2_empty) ∈ wsL_law := in_r10 _ (List.mem_of_getElem? (i := 2) rfl)
theorem q10_3 : (Cond.code yX2_empty cX2_empty 1 none) ∈ wsL_law := in_r10 _ (List.mem_of_getElem? (i := 3) rfl)
theorem q10_4 : (Cond.methodLink RX3 41 yX3_next) ∈ wsL_law := in_r10 _ (List.mem_of_getElem? (i := 4) rfl)
theorem q10_5 : (Cond.instanceMethod yX3_next) ∈ wsL_law := in_r10 _ (List.mem_of_getElem? (i := 5) rfl)
theorem q10_6 : (Cond.selects RX3 yX3_next yX3_next) ∈ wsL_law := in_r10 _ (List.mem_of_getElem? (i := 6) rfl)
theorem q10_7 : (Cond.code yX3_next cX3_next 1 none) ∈ wsL_law := in_r10 _ (List.mem_of_getElem? (i := 7) rfl)
theorem q10_8 : (Cond.fieldLink RX3 111 "LeanedBars$Text" "length" "I") ∈ wsL_law := in_r10 _ (List.mem_of_getElem? (i := 8) rfl)
theorem q10_9 : (Cond.methodLink RX3 107 yX4_behindRow) ∈ wsL_law := in_r10 _ (List.mem_of_getElem? (i := 9) rfl)
theorem q10_10 : (Cond.instanceMethod yX4_behindRow) ∈ wsL_law := in_r10 _ (List.mem_of_getElem? (i := 10) rfl)
theorem q10_11 : (Cond.selects RX4 yX4_behindRow yX4_behindRow) ∈ wsL_law := in_r10 _ (List.mem_of_getElem? (i := 11) rfl)
theorem q10_12 : (Cond.code yX4_behindRow cX4_behindRow 5 (some .int)) ∈ wsL_law := in_r10 _ (List.mem_of_getElem? (i := 12) rfl)
theorem q10_13 : (Cond.methodLink RX3 114 yX4_numberIn) ∈ wsL_law := in_r10 _ (List.mem_of_getElem? (i := 13) rfl)
theorem q10_14 : (Cond.instanceMethod yX4_numberIn) ∈ wsL_law := in_r10 _ (List.mem_of_getElem? (i := 14) rfl)
theorem q10_15 : (Cond.selects RX4 yX4_numberIn yX4_numberIn) ∈ wsL_law := in_r10 _ (List.mem_of_getElem? (i := 15) rfl)
theorem q10_16 : (Cond.code yX4_numberIn cX4_numberIn 6 (some .int)) ∈ wsL_law := in_r10 _ (List.mem_of_getElem? (i := 16) rfl)
theorem q10_17 : (Cond.methodLink RX3 117 yX4_isSign) ∈ wsL_law := in_r10 _ (List.mem_of_getElem? (i := 17) rfl)
theorem q10_18 : (Cond.instanceMethod yX4_isSign) ∈ wsL_law := in_r10 _ (List.mem_of_getElem? (i := 18) rfl)
theorem q10_19 : (Cond.selects RX4 yX4_isSign yX4_isSign) ∈ wsL_law := in_r10 _ (List.mem_of_getElem? (i := 19) rfl)
theorem q10_20 : (Cond.code yX4_isSign cX4_isSign 3 (some .boolean)) ∈ wsL_law := in_r10 _ (List.mem_of_getElem? (i := 20) rfl)
theorem q10_21 : (Cond.methodLink RX3 44 yX3_readItem) ∈ wsL_law := in_r10 _ (List.mem_of_getElem? (i := 21) rfl)
theorem q10_22 : (Cond.instanceMethod yX3_readItem) ∈ wsL_law := in_r10 _ (List.mem_of_getElem? (i := 22) rfl)
theorem q10_23 : (Cond.selects RX3 yX3_readItem yX3_readItem) ∈ wsL_law := in_r10 _ (List.mem_of_getElem? (i := 23) rfl)
theorem q11_0 : (Cond.code yX3_readItem cX3_readItem 1 (some .boolean)) ∈ wsL_law := in_r11 _ (List.mem_of_getElem? (i := 0) rfl)
theorem q11_1 : (Cond.methodLink RX3 50 yX4_isWord) ∈ wsL_law := in_r11 _ (List.mem_of_getElem? (i := 1) rfl)
theorem q11_2 : (Cond.instanceMethod yX4_isWord) ∈ wsL_law := in_r11 _ (List.mem_of_getElem? (i := 2) rfl)
theorem q11_3 : (Cond.selects RX4 yX4_isWord yX4_isWord) ∈ wsL_law := in_r11 _ (List.mem_of_getElem? (i := 3) rfl)
theorem q11_4 : (Cond.code yX4_isWord cX4_isWord 5 (some .boolean)) ∈ wsL_law := in_r11 _ (List.mem_of_getElem? (i := 4) rfl)
theorem q11_5 : (Cond.methodLink RX4 23 yJ0_length_8abf5) ∈ wsL_law := in_r11 _ (List.mem_of_getElem? (i := 5) rfl)
theorem q11_6 : (Cond.instanceMethod yJ0_length_8abf5) ∈ wsL_law := in_r11 _ (List.mem_of_getElem? (i := 6) rfl)
theorem q11_7 : (Cond.selects RJ0 yJ0_length_8abf5 yJ0_length_8abf5) ∈ wsL_law := in_r11 _ (List.mem_of_getElem? (i := 7) rfl)
theorem q11_8 : (Cond.initialized RJ0) ∈ wsL_law := in_r11 _ (List.mem_of_getElem? (i := 8) rfl)
theorem q11_9 : (Cond.code yJ0_length_8abf5 cJ0_length_8abf5 1 (some .int)) ∈ wsL_law := in_r11 _ (List.mem_of_getElem? (i := 9) rfl)
theorem q11_10 : (Cond.fieldLink RJ0 9 "java/lang/String" "value" "[B") ∈ wsL_law := in_r11 _ (List.mem_of_getElem? (i := 10) rfl)
theorem q11_11 : (Cond.methodLink RJ0 335 yJ0_coder_7d493) ∈ wsL_law := in_r11 _ (List.mem_of_getElem? (i := 11) rfl)
theorem q11_12 : (Cond.instanceMethod yJ0_coder_7d493) ∈ wsL_law := in_r11 _ (List.mem_of_getElem? (i := 12) rfl)
theorem q11_13 : (Cond.selects RJ0 yJ0_coder_7d493 yJ0_coder_7d493) ∈ wsL_law := in_r11 _ (List.mem_of_getElem? (i := 13) rfl)
theorem q11_14 : (Cond.code yJ0_coder_7d493 cJ0_coder_7d493 1 (some .byte)) ∈ wsL_law := in_r11 _ (List.mem_of_getElem? (i := 14) rfl)
theorem q11_15 : (Cond.fieldLink RJ0 38 "java/lang/String" "COMPACT_STRINGS" "Z") ∈ wsL_law := in_r11 _ (List.mem_of_getElem? (i := 15) rfl)
theorem q11_16 : (Cond.fieldLink RJ0 15 "java/lang/String" "coder" "B") ∈ wsL_law := in_r11 _ (List.mem_of_getElem? (i := 16) rfl)
theorem q11_17 : (Cond.methodLink RX4 28 yJ0_charAt_5068e) ∈ wsL_law := in_r11 _ (List.mem_of_getElem? (i := 17) rfl)
theorem q11_18 : (Cond.instanceMethod yJ0_charAt_5068e) ∈ wsL_law := in_r11 _ (List.mem_of_getElem? (i := 18) rfl)
theorem q11_19 : (Cond.selects RJ0 yJ0_charAt_5068e yJ0_charAt_5068e) ∈ wsL_law := in_r11 _ (List.mem_of_getElem? (i := 19) rfl)
theorem q11_20 : (Cond.code yJ0_charAt_5068e cJ0_charAt_5068e 2 (some .char)) ∈ wsL_law := in_r11 _ (List.mem_of_getElem? (i := 20) rfl)
theorem q11_21 : (Cond.methodLink RJ0 492 yJ0_isLatin1_aae02) ∈ wsL_law := in_r11 _ (List.mem_of_getElem? (i := 21) rfl)
theorem q11_22 : (Cond.instanceMethod yJ0_isLatin1_aae02) ∈ wsL_law := in_r11 _ (List.mem_of_getElem? (i := 22) rfl)
theorem q11_23 : (Cond.selects RJ0 yJ0_isLatin1_aae02 yJ0_isLatin1_aae02) ∈ wsL_law := in_r11 _ (List.mem_of_getElem? (i := 23) rfl)
theorem q12_0 : (Cond.code yJ0_isLatin1_aae02 cJ0_isLatin1_aae02 1 (some .boolean)) ∈ wsL_law := in_r12 _ (List.mem_of_getElem? (i := 0) rfl)
theorem q12_1 : (Cond.methodLink RJ0 495 yJ1_charAt_3b067) ∈ wsL_law := in_r12 _ (List.mem_of_getElem? (i := 1) rfl)
theorem q12_2 : (Cond.static yJ1_charAt_3b067) ∈ wsL_law := in_r12 _ (List.mem_of_getElem? (i := 2) rfl)
theorem q12_3 : (Cond.initialized RJ1) ∈ wsL_law := in_r12 _ (List.mem_of_getElem? (i := 3) rfl)
theorem q12_4 : (Cond.code yJ1_charAt_3b067 cJ1_charAt_3b067 2 (some .char)) ∈ wsL_law := in_r12 _ (List.mem_of_getElem? (i := 4) rfl)
theorem q12_5 : (Cond.methodLink RJ1 9 yJ0_checkIndex_df160) ∈ wsL_law := in_r12 _ (List.mem_of_getElem? (i := 5) rfl)
theorem q12_6 : (Cond.static yJ0_checkIndex_df160) ∈ wsL_law := in_r12 _ (List.mem_of_getElem? (i := 6) rfl)
theorem q12_7 : (Cond.code yJ0_checkIndex_df160 cJ0_checkIndex_df160 2 none) ∈ wsL_law := in_r12 _ (List.mem_of_getElem? (i := 7) rfl)
theorem q12_8 : (Cond.fieldLink RJ0 1053 "jdk/internal/util/Preconditions" "SIOOBE_FORMATTER" "Ljava/util/function/BiFunction;") ∈ wsL_law := in_r12 _ (List.mem_of_getElem? (i := 8) rfl)
theorem q12_9 : (Cond.methodLink RJ0 1059 yJ3_checkIndex_8e157) ∈ wsL_law := in_r12 _ (List.mem_of_getElem? (i := 9) rfl)
theorem q12_10 : (Cond.static yJ3_checkIndex_8e157) ∈ wsL_law := in_r12 _ (List.mem_of_getElem? (i := 10) rfl)
theorem q12_11 : (Cond.initialized RJ3) ∈ wsL_law := in_r12 _ (List.mem_of_getElem? (i := 11) rfl)
theorem q12_12 : (Cond.code yJ3_checkIndex_8e157 cJ3_checkIndex_8e157 3 (some .int)) ∈ wsL_law := in_r12 _ (List.mem_of_getElem? (i := 12) rfl)
theorem q13_6 : (Cond.methodLink RX4 32 yX4_isSign) ∈ wsL_law := in_r13 _ (List.mem_of_getElem? (i := 6) rfl)
theorem q13_7 : (Cond.methodLink RX3 54 yX3_readBar) ∈ wsL_law := in_r13 _ (List.mem_of_getElem? (i := 7) rfl)
theorem q13_8 : (Cond.instanceMethod yX3_readBar) ∈ wsL_law := in_r13 _ (List.mem_of_getElem? (i := 8) rfl)
theorem q13_9 : (Cond.selects RX3 yX3_readBar yX3_readBar) ∈ wsL_law := in_r13 _ (List.mem_of_getElem? (i := 9) rfl)
theorem q13_10 : (Cond.code yX3_readBar cX3_readBar 2 (some .boolean)) ∈ wsL_law := in_r13 _ (List.mem_of_getElem? (i := 10) rfl)
theorem q13_11 : (Cond.fieldLink RX3 72 "LeanedBars$Railings" "bars" "I") ∈ wsL_law := in_r13 _ (List.mem_of_getElem? (i := 11) rfl)
theorem q13_12 : (Cond.methodLink RX3 75 yX3_take) ∈ wsL_law := in_r13 _ (List.mem_of_getElem? (i := 12) rfl)
theorem q13_13 : (Cond.instanceMethod yX3_take) ∈ wsL_law := in_r13 _ (List.mem_of_getElem? (i := 13) rfl)
theorem q13_14 : (Cond.selects RX3 yX3_take yX3_take) ∈ wsL_law := in_r13 _ (List.mem_of_getElem? (i := 14) rfl)
theorem q13_15 : (Cond.code yX3_take cX3_take 4 (some .int)) ∈ wsL_law := in_r13 _ (List.mem_of_getElem? (i := 15) rfl)
theorem q13_16 : (Cond.methodLink RX3 79 yX3_takeStop) ∈ wsL_law := in_r13 _ (List.mem_of_getElem? (i := 16) rfl)
theorem q13_17 : (Cond.instanceMethod yX3_takeStop) ∈ wsL_law := in_r13 _ (List.mem_of_getElem? (i := 17) rfl)
theorem q13_18 : (Cond.selects RX3 yX3_takeStop yX3_takeStop) ∈ wsL_law := in_r13 _ (List.mem_of_getElem? (i := 18) rfl)
theorem q13_19 : (Cond.code yX3_takeStop cX3_takeStop 1 (some .boolean)) ∈ wsL_law := in_r13 _ (List.mem_of_getElem? (i := 19) rfl)
theorem q13_20 : (Cond.methodLink RX3 82 yX2_addBar) ∈ wsL_law := in_r13 _ (List.mem_of_getElem? (i := 20) rfl)
theorem q13_21 : (Cond.instanceMethod yX2_addBar) ∈ wsL_law := in_r13 _ (List.mem_of_getElem? (i := 21) rfl)
theorem q13_22 : (Cond.selects RX2 yX2_addBar yX2_addBar) ∈ wsL_law := in_r13 _ (List.mem_of_getElem? (i := 22) rfl)
theorem q13_23 : (Cond.code yX2_addBar cX2_addBar 2 none) ∈ wsL_law := in_r13 _ (List.mem_of_getElem? (i := 23) rfl)
theorem q14_0 : (Cond.methodLink RX3 59 yX3_readPerson) ∈ wsL_law := in_r14 _ (List.mem_of_getElem? (i := 0) rfl)
theorem q14_1 : (Cond.instanceMethod yX3_readPerson) ∈ wsL_law := in_r14 _ (List.mem_of_getElem? (i := 1) rfl)
theorem q14_2 : (Cond.selects RX3 yX3_readPerson yX3_readPerson) ∈ wsL_law := in_r14 _ (List.mem_of_getElem? (i := 2) rfl)
theorem q14_3 : (Cond.code yX3_readPerson cX3_readPerson 2 (some .boolean)) ∈ wsL_law := in_r14 _ (List.mem_of_getElem? (i := 3) rfl)
theorem q14_4 : (Cond.fieldLink RX3 86 "LeanedBars$Railings" "people" "I") ∈ wsL_law := in_r14 _ (List.mem_of_getElem? (i := 4) rfl)
theorem q14_5 : (Cond.methodLink RX3 89 yX2_addPerson) ∈ wsL_law := in_r14 _ (List.mem_of_getElem? (i := 5) rfl)
theorem q14_6 : (Cond.instanceMethod yX2_addPerson) ∈ wsL_law := in_r14 _ (List.mem_of_getElem? (i := 6) rfl)
theorem q14_7 : (Cond.selects RX2 yX2_addPerson yX2_addPerson) ∈ wsL_law := in_r14 _ (List.mem_of_getElem? (i := 7) rfl)
theorem q14_8 : (Cond.code yX2_addPerson cX2_addPerson 2 none) ∈ wsL_law := in_r14 _ (List.mem_of_getElem? (i := 8) rfl)
theorem q14_9 : (Cond.methodLink RX3 64 yX3_readRain) ∈ wsL_law := in_r14 _ (List.mem_of_getElem? (i := 9) rfl)
theorem q14_10 : (Cond.instanceMethod yX3_readRain) ∈ wsL_law := in_r14 _ (List.mem_of_getElem? (i := 10) rfl)
theorem q14_11 : (Cond.selects RX3 yX3_readRain yX3_readRain) ∈ wsL_law := in_r14 _ (List.mem_of_getElem? (i := 11) rfl)
theorem q14_12 : (Cond.code yX3_readRain cX3_readRain 3 (some .boolean)) ∈ wsL_law := in_r14 _ (List.mem_of_getElem? (i := 12) rfl)
theorem q14_13 : (Cond.fieldLink RX3 92 "LeanedBars$Railings" "rains" "[I") ∈ wsL_law := in_r14 _ (List.mem_of_getElem? (i := 13) rfl)
theorem q14_14 : (Cond.methodLink RX3 69 yX3_readPaint) ∈ wsL_law := in_r14 _ (List.mem_of_getElem? (i := 14) rfl)
theorem q14_15 : (Cond.instanceMethod yX3_readPaint) ∈ wsL_law := in_r14 _ (List.mem_of_getElem? (i := 15) rfl)
theorem q14_16 : (Cond.selects RX3 yX3_readPaint yX3_readPaint) ∈ wsL_law := in_r14 _ (List.mem_of_getElem? (i := 16) rfl)
theorem q14_17 : (Cond.code yX3_readPaint cX3_readPaint 4 (some .boolean)) ∈ wsL_law := in_r14 _ (List.mem_of_getElem? (i := 17) rfl)
theorem q14_18 : (Cond.fieldLink RX3 96 "LeanedBars$Railings" "paints" "I") ∈ wsL_law := in_r14 _ (List.mem_of_getElem? (i := 18) rfl)
theorem q14_19 : (Cond.methodLink RX3 99 yX2_addPaint) ∈ wsL_law := in_r14 _ (List.mem_of_getElem? (i := 19) rfl)
theorem q14_20 : (Cond.instanceMethod yX2_addPaint) ∈ wsL_law := in_r14 _ (List.mem_of_getElem? (i := 20) rfl)
theorem q14_21 : (Cond.selects RX2 yX2_addPaint yX2_addPaint) ∈ wsL_law := in_r14 _ (List.mem_of_getElem? (i := 21) rfl)
theorem q14_22 : (Cond.code yX2_addPaint cX2_addPaint 4 none) ∈ wsL_law := in_r14 _ (List.mem_of_getElem? (i := 22) rfl)
theorem q14_23 : (Cond.methodLink RX6 82 yX2_become) ∈ wsL_law := in_r14 _ (List.mem_of_getElem? (i := 23) rfl)
theorem q15_0 : (Cond.instanceMethod yX2_become) ∈ wsL_law := in_r15 _ (List.mem_of_getElem? (i := 0) rfl)
theorem q15_1 : (Cond.selects RX2 yX2_become yX2_become) ∈ wsL_law := in_r15 _ (List.mem_of_getElem? (i := 1) rfl)
theorem q15_2 : (Cond.code yX2_become cX2_become 2 none) ∈ wsL_law := in_r15 _ (List.mem_of_getElem? (i := 2) rfl)
theorem q15_3 : (Cond.methodLink RX2 46 arraycopyName) ∈ wsL_law := in_r15 _ (List.mem_of_getElem? (i := 3) rfl)
theorem q15_4 : (Cond.native arraycopyName) ∈ wsL_law := in_r15 _ (List.mem_of_getElem? (i := 4) rfl)
theorem q15_5 : (Cond.static arraycopyName) ∈ wsL_law := in_r15 _ (List.mem_of_getElem? (i := 5) rfl)
theorem q15_6 : (Cond.initialized "java/lang/System") ∈ wsL_law := in_r15 _ (List.mem_of_getElem? (i := 6) rfl)
theorem q15_7 : (Cond.methodLink RX6 86 yX1_forget) ∈ wsL_law := in_r15 _ (List.mem_of_getElem? (i := 7) rfl)
theorem q15_8 : (Cond.instanceMethod yX1_forget) ∈ wsL_law := in_r15 _ (List.mem_of_getElem? (i := 8) rfl)
theorem q15_9 : (Cond.selects RX1 yX1_forget yX1_forget) ∈ wsL_law := in_r15 _ (List.mem_of_getElem? (i := 9) rfl)
theorem q15_10 : (Cond.code yX1_forget cX1_forget 1 none) ∈ wsL_law := in_r15 _ (List.mem_of_getElem? (i := 10) rfl)
theorem q15_19 : (Cond.fieldLink RX6 93 "LeanedBars$Railings" "metals" "[I") ∈ wsL_law := in_r15 _ (List.mem_of_getElem? (i := 19) rfl)
theorem q15_20 : (Cond.methodLink RX6 89 yX2_hasBar) ∈ wsL_law := in_r15 _ (List.mem_of_getElem? (i := 20) rfl)
theorem q15_21 : (Cond.instanceMethod yX2_hasBar) ∈ wsL_law := in_r15 _ (List.mem_of_getElem? (i := 21) rfl)
theorem q15_22 : (Cond.selects RX2 yX2_hasBar yX2_hasBar) ∈ wsL_law := in_r15 _ (List.mem_of_getElem? (i := 22) rfl)
theorem q15_23 : (Cond.code yX2_hasBar cX2_hasBar 2 (some .boolean)) ∈ wsL_law := in_r15 _ (List.mem_of_getElem? (i := 23) rfl)
theorem q16_4 : (Cond.methodLink RX7 120 yX7_isBar) ∈ wsL_law := in_r16 _ (List.mem_of_getElem? (i := 4) rfl)
theorem q16_5 : (Cond.instanceMethod yX7_isBar) ∈ wsL_law := in_r16 _ (List.mem_of_getElem? (i := 5) rfl)
theorem q16_6 : (Cond.selects RX7 yX7_isBar yX7_isBar) ∈ wsL_law := in_r16 _ (List.mem_of_getElem? (i := 6) rfl)
theorem q16_7 : (Cond.code yX7_isBar cX7_isBar 2 (some .boolean)) ∈ wsL_law := in_r16 _ (List.mem_of_getElem? (i := 7) rfl)
theorem q16_12 : (Cond.fieldLink RX6 100 "LeanedBars$Railings" "grips" "[I") ∈ wsL_law := in_r16 _ (List.mem_of_getElem? (i := 12) rfl)
theorem q16_13 : (Cond.methodLink RX6 97 yX2_hasPerson) ∈ wsL_law := in_r16 _ (List.mem_of_getElem? (i := 13) rfl)
theorem q16_14 : (Cond.instanceMethod yX2_hasPerson) ∈ wsL_law := in_r16 _ (List.mem_of_getElem? (i := 14) rfl)
theorem q16_15 : (Cond.selects RX2 yX2_hasPerson yX2_hasPerson) ∈ wsL_law := in_r16 _ (List.mem_of_getElem? (i := 15) rfl)
theorem q16_16 : (Cond.code yX2_hasPerson cX2_hasPerson 2 (some .boolean)) ∈ wsL_law := in_r16 _ (List.mem_of_getElem? (i := 16) rfl)
theorem q16_21 : (Cond.methodLink RX7 123 yX7_isPerson) ∈ wsL_law := in_r16 _ (List.mem_of_getElem? (i := 21) rfl)
theorem q16_22 : (Cond.instanceMethod yX7_isPerson) ∈ wsL_law := in_r16 _ (List.mem_of_getElem? (i := 22) rfl)
theorem q16_23 : (Cond.selects RX7 yX7_isPerson yX7_isPerson) ∈ wsL_law := in_r16 _ (List.mem_of_getElem? (i := 23) rfl)
theorem q17_0 : (Cond.code yX7_isPerson cX7_isPerson 2 (some .boolean)) ∈ wsL_law := in_r17 _ (List.mem_of_getElem? (i := 0) rfl)
theorem q17_5 : (Cond.fieldLink RX6 106 "LeanedBars$Railings" "rains" "[I") ∈ wsL_law := in_r17 _ (List.mem_of_getElem? (i := 5) rfl)
theorem q17_6 : (Cond.methodLink RX6 103 yX6_isYear) ∈ wsL_law := in_r17 _ (List.mem_of_getElem? (i := 6) rfl)
theorem q17_7 : (Cond.static yX6_isYear) ∈ wsL_law := in_r17 _ (List.mem_of_getElem? (i := 7) rfl)
theorem q17_8 : (Cond.code yX6_isYear cX6_isYear 1 (some .boolean)) ∈ wsL_law := in_r17 _ (List.mem_of_getElem? (i := 8) rfl)
theorem q17_17 : (Cond.methodLink RX6 109 yX2_isWet) ∈ wsL_law := in_r17 _ (List.mem_of_getElem? (i := 17) rfl)
theorem q17_18 : (Cond.instanceMethod yX2_isWet) ∈ wsL_law := in_r17 _ (List.mem_of_getElem? (i := 18) rfl)
theorem q17_19 : (Cond.selects RX2 yX2_isWet yX2_isWet) ∈ wsL_law := in_r17 _ (List.mem_of_getElem? (i := 19) rfl)
theorem q17_20 : (Cond.code yX2_isWet cX2_isWet 4 (some .boolean)) ∈ wsL_law := in_r17 _ (List.mem_of_getElem? (i := 20) rfl)
theorem q17_21 : (Cond.methodLink RX6 113 yX2_isCovered) ∈ wsL_law := in_r17 _ (List.mem_of_getElem? (i := 21) rfl)
theorem q17_22 : (Cond.instanceMethod yX2_isCovered) ∈ wsL_law := in_r17 _ (List.mem_of_getElem? (i := 22) rfl)
theorem q17_23 : (Cond.selects RX2 yX2_isCovered yX2_isCovered) ∈ wsL_law := in_r17 _ (List.mem_of_getElem? (i := 23) rfl)
theorem q18_0 : (Cond.code yX2_isCovered cX2_isCovered 5 (some .boolean)) ∈ wsL_law := in_r18 _ (List.mem_of_getElem? (i := 0) rfl)
theorem q18_5 : (Cond.methodLink RX7 126 yX7_paintOf) ∈ wsL_law := in_r18 _ (List.mem_of_getElem? (i := 5) rfl)
theorem q18_6 : (Cond.instanceMethod yX7_paintOf) ∈ wsL_law := in_r18 _ (List.mem_of_getElem? (i := 6) rfl)
theorem q18_7 : (Cond.selects RX7 yX7_paintOf yX7_paintOf) ∈ wsL_law := in_r18 _ (List.mem_of_getElem? (i := 7) rfl)
theorem q18_8 : (Cond.code yX7_paintOf cX7_paintOf 6 (some .int)) ∈ wsL_law := in_r18 _ (List.mem_of_getElem? (i := 8) rfl)
theorem q18_13 : (Cond.fieldLink RX6 116 "LeanedBars$Now" "size" "I") ∈ wsL_law := in_r18 _ (List.mem_of_getElem? (i := 13) rfl)
theorem q18_14 : (Cond.methodLink RX6 119 yX1_add) ∈ wsL_law := in_r18 _ (List.mem_of_getElem? (i := 14) rfl)
theorem q18_15 : (Cond.instanceMethod yX1_add) ∈ wsL_law := in_r18 _ (List.mem_of_getElem? (i := 15) rfl)
theorem q18_16 : (Cond.selects RX1 yX1_add yX1_add) ∈ wsL_law := in_r18 _ (List.mem_of_getElem? (i := 16) rfl)
theorem q18_17 : (Cond.code yX1_add cX1_add 5 none) ∈ wsL_law := in_r18 _ (List.mem_of_getElem? (i := 17) rfl)
theorem q19_10 : (Cond.fieldLink RX6 123 "LeanedBars$Now" "people" "[I") ∈ wsL_law := in_r19 _ (List.mem_of_getElem? (i := 10) rfl)
theorem q19_11 : (Cond.fieldLink RX6 126 "LeanedBars$Now" "bars" "[I") ∈ wsL_law := in_r19 _ (List.mem_of_getElem? (i := 11) rfl)
theorem q19_12 : (Cond.fieldLink RX6 129 "LeanedBars$Now" "firsts" "[I") ∈ wsL_law := in_r19 _ (List.mem_of_getElem? (i := 12) rfl)
theorem q19_13 : (Cond.fieldLink RX6 132 "LeanedBars$Now" "lengths" "[I") ∈ wsL_law := in_r19 _ (List.mem_of_getElem? (i := 13) rfl)
theorem q19_22 : (Cond.methodLink RX6 135 yX6_rustByHolds) ∈ wsL_law := in_r19 _ (List.mem_of_getElem? (i := 22) rfl)
theorem q19_23 : (Cond.instanceMethod yX6_rustByHolds) ∈ wsL_law := in_r19 _ (List.mem_of_getElem? (i := 23) rfl)
theorem q20_0 : (Cond.selects RX6 yX6_rustByHolds yX6_rustByHolds) ∈ wsL_law := in_r20 _ (List.mem_of_getElem? (i := 0) rfl)
theorem q20_1 : (Cond.code yX6_rustByHolds cX6_rustByHolds 6 (some .int)) ∈ wsL_law := in_r20 _ (List.mem_of_getElem? (i := 1) rfl)
theorem q20_2 : (Cond.methodLink RX6 210 Lib.Math.min.name) ∈ wsL_law := in_r20 _ (List.mem_of_getElem? (i := 2) rfl)
theorem q20_3 : (Cond.static Lib.Math.min.name) ∈ wsL_law := in_r20 _ (List.mem_of_getElem? (i := 3) rfl)
theorem q20_4 : (Cond.initialized "java/lang/Math") ∈ wsL_law := in_r20 _ (List.mem_of_getElem? (i := 4) rfl)
theorem q20_5 : (Cond.code Lib.Math.min.name Lib.Math.min.code 2 (some .int)) ∈ wsL_law := in_r20 _ (List.mem_of_getElem? (i := 5) rfl)
theorem q20_6 : (Cond.methodLink RX6 207 yX2_weather) ∈ wsL_law := in_r20 _ (List.mem_of_getElem? (i := 6) rfl)
theorem q20_7 : (Cond.instanceMethod yX2_weather) ∈ wsL_law := in_r20 _ (List.mem_of_getElem? (i := 7) rfl)
theorem q20_8 : (Cond.selects RX2 yX2_weather yX2_weather) ∈ wsL_law := in_r20 _ (List.mem_of_getElem? (i := 8) rfl)
theorem q20_9 : (Cond.code yX2_weather cX2_weather 5 (some .int)) ∈ wsL_law := in_r20 _ (List.mem_of_getElem? (i := 9) rfl)
theorem q20_10 : (Cond.methodLink RX2 56 yX2_isCovered) ∈ wsL_law := in_r20 _ (List.mem_of_getElem? (i := 10) rfl)
theorem q20_11 : (Cond.methodLink RX6 215 yX2_dryYears) ∈ wsL_law := in_r20 _ (List.mem_of_getElem? (i := 11) rfl)
theorem q20_12 : (Cond.instanceMethod yX2_dryYears) ∈ wsL_law := in_r20 _ (List.mem_of_getElem? (i := 12) rfl)
theorem q20_13 : (Cond.selects RX2 yX2_dryYears yX2_dryYears) ∈ wsL_law := in_r20 _ (List.mem_of_getElem? (i := 13) rfl)
theorem q20_14 : (Cond.code yX2_dryYears cX2_dryYears 6 (some .int)) ∈ wsL_law := in_r20 _ (List.mem_of_getElem? (i := 14) rfl)
theorem q20_15 : (Cond.methodLink RX2 60 yX2_isWet) ∈ wsL_law := in_r20 _ (List.mem_of_getElem? (i := 15) rfl)
theorem q20_20 : (Cond.methodLink RX7 132 yX7_rustOf) ∈ wsL_law := in_r20 _ (List.mem_of_getElem? (i := 20) rfl)
theorem q20_21 : (Cond.instanceMethod yX7_rustOf) ∈ wsL_law := in_r20 _ (List.mem_of_getElem? (i := 21) rfl)
theorem q20_22 : (Cond.selects RX7 yX7_rustOf yX7_rustOf) ∈ wsL_law := in_r20 _ (List.mem_of_getElem? (i := 22) rfl)
theorem q20_23 : (Cond.code yX7_rustOf cX7_rustOf 7 (some .int)) ∈ wsL_law := in_r20 _ (List.mem_of_getElem? (i := 23) rfl)
theorem q21_0 : (Cond.methodLink RX7 129 yX7_plain) ∈ wsL_law := in_r21 _ (List.mem_of_getElem? (i := 0) rfl)
theorem q21_1 : (Cond.instanceMethod yX7_plain) ∈ wsL_law := in_r21 _ (List.mem_of_getElem? (i := 1) rfl)
theorem q21_2 : (Cond.selects RX7 yX7_plain yX7_plain) ∈ wsL_law := in_r21 _ (List.mem_of_getElem? (i := 2) rfl)
theorem q21_3 : (Cond.code yX7_plain cX7_plain 5 (some .int)) ∈ wsL_law := in_r21 _ (List.mem_of_getElem? (i := 3) rfl)
theorem q21_8 : (Cond.fieldLink RX6 139 "LeanedBars$Now" "sights" "[I") ∈ wsL_law := in_r21 _ (List.mem_of_getElem? (i := 8) rfl)
theorem q22_9 : (Cond.methodLink RX6 142 yX5_learn) ∈ wsL_law := in_r22 _ (List.mem_of_getElem? (i := 9) rfl)
theorem q22_10 : (Cond.instanceMethod yX5_learn) ∈ wsL_law := in_r22 _ (List.mem_of_getElem? (i := 10) rfl)
theorem q22_11 : (Cond.selects RX5 yX5_learn yX5_learn) ∈ wsL_law := in_r22 _ (List.mem_of_getElem? (i := 11) rfl)
theorem q22_12 : (Cond.code yX5_learn cX5_learn 5 none) ∈ wsL_law := in_r22 _ (List.mem_of_getElem? (i := 12) rfl)
theorem q22_13 : (Cond.fieldLink RX5 41 "LeanedBars$Railings" "bars" "I") ∈ wsL_law := in_r22 _ (List.mem_of_getElem? (i := 13) rfl)
theorem q22_14 : (Cond.fieldLink RX5 44 "LeanedBars$Railings" "people" "I") ∈ wsL_law := in_r22 _ (List.mem_of_getElem? (i := 14) rfl)
theorem q22_15 : (Cond.fieldLink RX5 45 "LeanedBars$Railings" "grips" "[I") ∈ wsL_law := in_r22 _ (List.mem_of_getElem? (i := 15) rfl)
theorem q22_16 : (Cond.methodLink RX5 46 arraycopyName) ∈ wsL_law := in_r22 _ (List.mem_of_getElem? (i := 16) rfl)
theorem q22_17 : (Cond.fieldLink RX5 52 "LeanedBars$Now" "sights" "[I") ∈ wsL_law := in_r22 _ (List.mem_of_getElem? (i := 17) rfl)
theorem q22_18 : (Cond.methodLink RX5 57 yX2_weather) ∈ wsL_law := in_r22 _ (List.mem_of_getElem? (i := 18) rfl)
theorem q22_19 : (Cond.methodLink RX5 61 yX2_dryYears) ∈ wsL_law := in_r22 _ (List.mem_of_getElem? (i := 19) rfl)
theorem q22_20 : (Cond.methodLink RX5 65 yX5_winters) ∈ wsL_law := in_r22 _ (List.mem_of_getElem? (i := 20) rfl)
theorem q22_21 : (Cond.instanceMethod yX5_winters) ∈ wsL_law := in_r22 _ (List.mem_of_getElem? (i := 21) rfl)
theorem q22_22 : (Cond.selects RX5 yX5_winters yX5_winters) ∈ wsL_law := in_r22 _ (List.mem_of_getElem? (i := 22) rfl)
theorem q22_23 : (Cond.code yX5_winters cX5_winters 6 (some .int)) ∈ wsL_law := in_r22 _ (List.mem_of_getElem? (i := 23) rfl)
theorem q23_0 : (Cond.methodLink RX5 101 yX5_wintersFrom) ∈ wsL_law := in_r23 _ (List.mem_of_getElem? (i := 0) rfl)
theorem q23_1 : (Cond.static yX5_wintersFrom) ∈ wsL_law := in_r23 _ (List.mem_of_getElem? (i := 1) rfl)
theorem q23_2 : (Cond.code yX5_wintersFrom cX5_wintersFrom 7 (some .int)) ∈ wsL_law := in_r23 _ (List.mem_of_getElem? (i := 2) rfl)
theorem q23_3 : (Cond.methodLink RX5 76 yX5_isIn) ∈ wsL_law := in_r23 _ (List.mem_of_getElem? (i := 3) rfl)
theorem q23_4 : (Cond.static yX5_isIn) ∈ wsL_law := in_r23 _ (List.mem_of_getElem? (i := 4) rfl)
theorem q23_5 : (Cond.code yX5_isIn cX5_isIn 2 (some .boolean)) ∈ wsL_law := in_r23 _ (List.mem_of_getElem? (i := 5) rfl)
theorem q23_6 : (Cond.methodLink RX5 80 yX5_leaves) ∈ wsL_law := in_r23 _ (List.mem_of_getElem? (i := 6) rfl)
theorem q23_7 : (Cond.instanceMethod yX5_leaves) ∈ wsL_law := in_r23 _ (List.mem_of_getElem? (i := 7) rfl)
theorem q23_8 : (Cond.selects RX5 yX5_leaves yX5_leaves) ∈ wsL_law := in_r23 _ (List.mem_of_getElem? (i := 8) rfl)
theorem q23_9 : (Cond.code yX5_leaves cX5_leaves 4 (some .int)) ∈ wsL_law := in_r23 _ (List.mem_of_getElem? (i := 9) rfl)
theorem q23_10 : (Cond.methodLink RX6 146 yX5_all) ∈ wsL_law := in_r23 _ (List.mem_of_getElem? (i := 10) rfl)
theorem q23_11 : (Cond.instanceMethod yX5_all) ∈ wsL_law := in_r23 _ (List.mem_of_getElem? (i := 11) rfl)
theorem q23_12 : (Cond.selects RX5 yX5_all yX5_all) ∈ wsL_law := in_r23 _ (List.mem_of_getElem? (i := 12) rfl)
theorem q23_13 : (Cond.code yX5_all cX5_all 1 (some .int)) ∈ wsL_law := in_r23 _ (List.mem_of_getElem? (i := 13) rfl)
theorem q23_14 : (Cond.methodLink RX5 68 yX5_gather) ∈ wsL_law := in_r23 _ (List.mem_of_getElem? (i := 14) rfl)
theorem q23_15 : (Cond.instanceMethod yX5_gather) ∈ wsL_law := in_r23 _ (List.mem_of_getElem? (i := 15) rfl)
theorem q23_16 : (Cond.selects RX5 yX5_gather yX5_gather) ∈ wsL_law := in_r23 _ (List.mem_of_getElem? (i := 16) rfl)
theorem q23_17 : (Cond.code yX5_gather cX5_gather 3 none) ∈ wsL_law := in_r23 _ (List.mem_of_getElem? (i := 17) rfl)
theorem q23_18 : (Cond.methodLink RX5 83 yJ7_fill_53178) ∈ wsL_law := in_r23 _ (List.mem_of_getElem? (i := 18) rfl)
theorem q23_19 : (Cond.methodLink RX5 98 yX5_gatherBar) ∈ wsL_law := in_r23 _ (List.mem_of_getElem? (i := 19) rfl)
theorem q23_20 : (Cond.instanceMethod yX5_gatherBar) ∈ wsL_law := in_r23 _ (List.mem_of_getElem? (i := 20) rfl)
theorem q23_21 : (Cond.selects RX5 yX5_gatherBar yX5_gatherBar) ∈ wsL_law := in_r23 _ (List.mem_of_getElem? (i := 21) rfl)
theorem q23_22 : (Cond.code yX5_gatherBar cX5_gatherBar 5 none) ∈ wsL_law := in_r23 _ (List.mem_of_getElem? (i := 22) rfl)
theorem q23_23 : (Cond.methodLink RX5 72 yX5_waysBeside) ∈ wsL_law := in_r23 _ (List.mem_of_getElem? (i := 23) rfl)
theorem q24_0 : (Cond.instanceMethod yX5_waysBeside) ∈ wsL_law := in_r24 _ (List.mem_of_getElem? (i := 0) rfl)
theorem q24_1 : (Cond.selects RX5 yX5_waysBeside yX5_waysBeside) ∈ wsL_law := in_r24 _ (List.mem_of_getElem? (i := 1) rfl)
theorem q24_2 : (Cond.code yX5_waysBeside cX5_waysBeside 4 (some .int)) ∈ wsL_law := in_r24 _ (List.mem_of_getElem? (i := 2) rfl)
theorem q24_7 : (Cond.fieldLink RX7 135 "LeanedBarsModel" "ways" "I") ∈ wsL_law := in_r24 _ (List.mem_of_getElem? (i := 7) rfl)
theorem q24_8 : (Cond.methodLink RX7 141 yX7_lays) ∈ wsL_law := in_r24 _ (List.mem_of_getElem? (i := 8) rfl)
theorem q24_9 : (Cond.instanceMethod yX7_lays) ∈ wsL_law := in_r24 _ (List.mem_of_getElem? (i := 9) rfl)
theorem q24_10 : (Cond.selects RX7 yX7_lays yX7_lays) ∈ wsL_law := in_r24 _ (List.mem_of_getElem? (i := 10) rfl)
theorem q24_11 : (Cond.code yX7_lays cX7_lays 4 none) ∈ wsL_law := in_r24 _ (List.mem_of_getElem? (i := 11) rfl)
theorem q24_12 : (Cond.methodLink RX7 144 yX7_isWay) ∈ wsL_law := in_r24 _ (List.mem_of_getElem? (i := 12) rfl)
theorem q24_13 : (Cond.instanceMethod yX7_isWay) ∈ wsL_law := in_r24 _ (List.mem_of_getElem? (i := 13) rfl)
theorem q24_14 : (Cond.selects RX7 yX7_isWay yX7_isWay) ∈ wsL_law := in_r24 _ (List.mem_of_getElem? (i := 14) rfl)
theorem q24_15 : (Cond.code yX7_isWay cX7_isWay 4 (some .boolean)) ∈ wsL_law := in_r24 _ (List.mem_of_getElem? (i := 15) rfl)
theorem q24_16 : (Cond.methodLink RX7 138 yX7_figureOf) ∈ wsL_law := in_r24 _ (List.mem_of_getElem? (i := 16) rfl)
theorem q24_17 : (Cond.instanceMethod yX7_figureOf) ∈ wsL_law := in_r24 _ (List.mem_of_getElem? (i := 17) rfl)
theorem q24_18 : (Cond.selects RX7 yX7_figureOf yX7_figureOf) ∈ wsL_law := in_r24 _ (List.mem_of_getElem? (i := 18) rfl)
theorem q24_19 : (Cond.code yX7_figureOf cX7_figureOf 5 (some .int)) ∈ wsL_law := in_r24 _ (List.mem_of_getElem? (i := 19) rfl)
theorem q25_0 : (Cond.fieldLink RX6 153 "LeanedBars$Railings" "bars" "I") ∈ wsL_law := in_r25 _ (List.mem_of_getElem? (i := 0) rfl)
theorem q25_1 : (Cond.methodLink RX6 149 yX5_holdingNone) ∈ wsL_law := in_r25 _ (List.mem_of_getElem? (i := 1) rfl)
theorem q25_2 : (Cond.instanceMethod yX5_holdingNone) ∈ wsL_law := in_r25 _ (List.mem_of_getElem? (i := 2) rfl)
theorem q25_3 : (Cond.selects RX5 yX5_holdingNone yX5_holdingNone) ∈ wsL_law := in_r25 _ (List.mem_of_getElem? (i := 3) rfl)
theorem q25_4 : (Cond.code yX5_holdingNone cX5_holdingNone 2 (some .int)) ∈ wsL_law := in_r25 _ (List.mem_of_getElem? (i := 4) rfl)
theorem q25_5 : (Cond.methodLink RX6 155 yX5_holding) ∈ wsL_law := in_r25 _ (List.mem_of_getElem? (i := 5) rfl)
theorem q25_6 : (Cond.instanceMethod yX5_holding) ∈ wsL_law := in_r25 _ (List.mem_of_getElem? (i := 6) rfl)
theorem q25_7 : (Cond.selects RX5 yX5_holding yX5_holding) ∈ wsL_law := in_r25 _ (List.mem_of_getElem? (i := 7) rfl)
theorem q25_8 : (Cond.code yX5_holding cX5_holding 5 (some .int)) ∈ wsL_law := in_r25 _ (List.mem_of_getElem? (i := 8) rfl)
theorem q25_13 : (Cond.methodLink RX7 147 yX7_barOf) ∈ wsL_law := in_r25 _ (List.mem_of_getElem? (i := 13) rfl)
theorem q25_14 : (Cond.static yX7_barOf) ∈ wsL_law := in_r25 _ (List.mem_of_getElem? (i := 14) rfl)
theorem q25_15 : (Cond.code yX7_barOf cX7_barOf 1 (some .int)) ∈ wsL_law := in_r25 _ (List.mem_of_getElem? (i := 15) rfl)
theorem q25_20 : (Cond.methodLink RX6 158 yX6_commonDivisor) ∈ wsL_law := in_r25 _ (List.mem_of_getElem? (i := 20) rfl)
theorem q25_21 : (Cond.static yX6_commonDivisor) ∈ wsL_law := in_r25 _ (List.mem_of_getElem? (i := 21) rfl)
theorem q25_22 : (Cond.code yX6_commonDivisor cX6_commonDivisor 6 (some .int)) ∈ wsL_law := in_r25 _ (List.mem_of_getElem? (i := 22) rfl)
theorem q26_7 : (Cond.methodLink RX6 161 yX6_isClaim) ∈ wsL_law := in_r26 _ (List.mem_of_getElem? (i := 7) rfl)
theorem q26_8 : (Cond.instanceMethod yX6_isClaim) ∈ wsL_law := in_r26 _ (List.mem_of_getElem? (i := 8) rfl)
theorem q26_9 : (Cond.selects RX6 yX6_isClaim yX6_isClaim) ∈ wsL_law := in_r26 _ (List.mem_of_getElem? (i := 9) rfl)
theorem q26_10 : (Cond.code yX6_isClaim cX6_isClaim 4 (some .boolean)) ∈ wsL_law := in_r26 _ (List.mem_of_getElem? (i := 10) rfl)
theorem q26_11 : (Cond.methodLink RX6 164 yX5_canHaveHeld) ∈ wsL_law := in_r26 _ (List.mem_of_getElem? (i := 11) rfl)
theorem q26_12 : (Cond.instanceMethod yX5_canHaveHeld) ∈ wsL_law := in_r26 _ (List.mem_of_getElem? (i := 12) rfl)
theorem q26_13 : (Cond.selects RX5 yX5_canHaveHeld yX5_canHaveHeld) ∈ wsL_law := in_r26 _ (List.mem_of_getElem? (i := 13) rfl)
theorem q26_14 : (Cond.code yX5_canHaveHeld cX5_canHaveHeld 6 (some .boolean)) ∈ wsL_law := in_r26 _ (List.mem_of_getElem? (i := 14) rfl)
theorem q26_19 : (Cond.methodLink RX7 150 yX7_isClaim) ∈ wsL_law := in_r26 _ (List.mem_of_getElem? (i := 19) rfl)
theorem q26_20 : (Cond.instanceMethod yX7_isClaim) ∈ wsL_law := in_r26 _ (List.mem_of_getElem? (i := 20) rfl)
theorem q26_21 : (Cond.selects RX7 yX7_isClaim yX7_isClaim) ∈ wsL_law := in_r26 _ (List.mem_of_getElem? (i := 21) rfl)
theorem q26_22 : (Cond.code yX7_isClaim cX7_isClaim 4 (some .boolean)) ∈ wsL_law := in_r26 _ (List.mem_of_getElem? (i := 22) rfl)
theorem q26_23 : (Cond.methodLink RX7 153 yX7_claims) ∈ wsL_law := in_r26 _ (List.mem_of_getElem? (i := 23) rfl)
theorem q27_0 : (Cond.instanceMethod yX7_claims) ∈ wsL_law := in_r27 _ (List.mem_of_getElem? (i := 0) rfl)
theorem q27_1 : (Cond.selects RX7 yX7_claims yX7_claims) ∈ wsL_law := in_r27 _ (List.mem_of_getElem? (i := 1) rfl)
theorem q27_2 : (Cond.code yX7_claims cX7_claims 7 (some .int)) ∈ wsL_law := in_r27 _ (List.mem_of_getElem? (i := 2) rfl)
theorem q27_15 : (Cond.methodLink RX6 167 yX5_leftAtWorst) ∈ wsL_law := in_r27 _ (List.mem_of_getElem? (i := 15) rfl)
theorem q27_16 : (Cond.instanceMethod yX5_leftAtWorst) ∈ wsL_law := in_r27 _ (List.mem_of_getElem? (i := 16) rfl)
theorem q27_17 : (Cond.selects RX5 yX5_leftAtWorst yX5_leftAtWorst) ∈ wsL_law := in_r27 _ (List.mem_of_getElem? (i := 17) rfl)
theorem q27_18 : (Cond.code yX5_leftAtWorst cX5_leftAtWorst 4 (some .int)) ∈ wsL_law := in_r27 _ (List.mem_of_getElem? (i := 18) rfl)
theorem q27_19 : (Cond.methodLink RX5 93 Lib.Math.max.name) ∈ wsL_law := in_r27 _ (List.mem_of_getElem? (i := 19) rfl)
theorem q27_20 : (Cond.static Lib.Math.max.name) ∈ wsL_law := in_r27 _ (List.mem_of_getElem? (i := 20) rfl)
theorem q27_21 : (Cond.code Lib.Math.max.name Lib.Math.max.code 2 (some .int)) ∈ wsL_law := in_r27 _ (List.mem_of_getElem? (i := 21) rfl)
theorem q27_22 : (Cond.methodLink RX5 89 yX5_spread) ∈ wsL_law := in_r27 _ (List.mem_of_getElem? (i := 22) rfl)
theorem q27_23 : (Cond.static yX5_spread) ∈ wsL_law := in_r27 _ (List.mem_of_getElem? (i := 23) rfl)
theorem q28_0 : (Cond.code yX5_spread cX5_spread 7 none) ∈ wsL_law := in_r28 _ (List.mem_of_getElem? (i := 0) rfl)
theorem q28_9 : (Cond.fieldLink RX6 170 "LeanedBars$Exchanges" "size" "I") ∈ wsL_law := in_r28 _ (List.mem_of_getElem? (i := 9) rfl)
theorem q28_10 : (Cond.methodLink RX6 171 yX0_add) ∈ wsL_law := in_r28 _ (List.mem_of_getElem? (i := 10) rfl)
theorem q28_11 : (Cond.instanceMethod yX0_add) ∈ wsL_law := in_r28 _ (List.mem_of_getElem? (i := 11) rfl)
theorem q28_12 : (Cond.selects RX0 yX0_add yX0_add) ∈ wsL_law := in_r28 _ (List.mem_of_getElem? (i := 12) rfl)
theorem q28_13 : (Cond.code yX0_add cX0_add 3 none) ∈ wsL_law := in_r28 _ (List.mem_of_getElem? (i := 13) rfl)
theorem q28_14 : (Cond.methodLink RX6 174 yX0_fewest) ∈ wsL_law := in_r28 _ (List.mem_of_getElem? (i := 14) rfl)
theorem q28_15 : (Cond.instanceMethod yX0_fewest) ∈ wsL_law := in_r28 _ (List.mem_of_getElem? (i := 15) rfl)
theorem q28_16 : (Cond.selects RX0 yX0_fewest yX0_fewest) ∈ wsL_law := in_r28 _ (List.mem_of_getElem? (i := 16) rfl)
theorem q28_17 : (Cond.code yX0_fewest cX0_fewest 2 (some .int)) ∈ wsL_law := in_r28 _ (List.mem_of_getElem? (i := 17) rfl)
theorem q28_18 : (Cond.methodLink RX0 22 yX0_fewestFrom) ∈ wsL_law := in_r28 _ (List.mem_of_getElem? (i := 18) rfl)
theorem q28_19 : (Cond.static yX0_fewestFrom) ∈ wsL_law := in_r28 _ (List.mem_of_getElem? (i := 19) rfl)
theorem q28_20 : (Cond.code yX0_fewestFrom cX0_fewestFrom 7 (some .int)) ∈ wsL_law := in_r28 _ (List.mem_of_getElem? (i := 20) rfl)
theorem q28_21 : (Cond.methodLink RX0 30 Lib.Math.min.name) ∈ wsL_law := in_r28 _ (List.mem_of_getElem? (i := 21) rfl)
theorem q28_22 : (Cond.methodLink RX0 26 yX0_exchange) ∈ wsL_law := in_r28 _ (List.mem_of_getElem? (i := 22) rfl)
theorem q28_23 : (Cond.static yX0_exchange) ∈ wsL_law := in_r28 _ (List.mem_of_getElem? (i := 23) rfl)
theorem q29_0 : (Cond.code yX0_exchange cX0_exchange 4 none) ∈ wsL_law := in_r29 _ (List.mem_of_getElem? (i := 0) rfl)
theorem q29_5 : (Cond.methodLink RX7 156 yX7_comesOut) ∈ wsL_law := in_r29 _ (List.mem_of_getElem? (i := 5) rfl)
theorem q29_6 : (Cond.instanceMethod yX7_comesOut) ∈ wsL_law := in_r29 _ (List.mem_of_getElem? (i := 6) rfl)
theorem q29_7 : (Cond.selects RX7 yX7_comesOut yX7_comesOut) ∈ wsL_law := in_r29 _ (List.mem_of_getElem? (i := 7) rfl)
theorem q29_8 : (Cond.code yX7_comesOut cX7_comesOut 4 (some .boolean)) ∈ wsL_law := in_r29 _ (List.mem_of_getElem? (i := 8) rfl)
theorem q29_9 : (Cond.methodLink RX7 159 yX7_exchanges) ∈ wsL_law := in_r29 _ (List.mem_of_getElem? (i := 9) rfl)
theorem q29_10 : (Cond.instanceMethod yX7_exchanges) ∈ wsL_law := in_r29 _ (List.mem_of_getElem? (i := 10) rfl)
theorem q29_11 : (Cond.selects RX7 yX7_exchanges yX7_exchanges) ∈ wsL_law := in_r29 _ (List.mem_of_getElem? (i := 11) rfl)
theorem q29_12 : (Cond.code yX7_exchanges cX7_exchanges 6 (some .int)) ∈ wsL_law := in_r29 _ (List.mem_of_getElem? (i := 12) rfl)
theorem q29_17 : (Cond.constant RX6 177 (-1000000)) ∈ wsL_law := in_r29 _ (List.mem_of_getElem? (i := 17) rfl)
theorem q29_18 : (Cond.methodLink RX6 178 yX6_rateOfBar) ∈ wsL_law := in_r29 _ (List.mem_of_getElem? (i := 18) rfl)
theorem q29_19 : (Cond.instanceMethod yX6_rateOfBar) ∈ wsL_law := in_r29 _ (List.mem_of_getElem? (i := 19) rfl)
theorem q29_20 : (Cond.selects RX6 yX6_rateOfBar yX6_rateOfBar) ∈ wsL_law := in_r29 _ (List.mem_of_getElem? (i := 20) rfl)
theorem q29_21 : (Cond.code yX6_rateOfBar cX6_rateOfBar 2 (some .int)) ∈ wsL_law := in_r29 _ (List.mem_of_getElem? (i := 21) rfl)
theorem q29_22 : (Cond.methodLink RX6 181 yX6_rateOfRail) ∈ wsL_law := in_r29 _ (List.mem_of_getElem? (i := 22) rfl)
theorem q29_23 : (Cond.instanceMethod yX6_rateOfRail) ∈ wsL_law := in_r29 _ (List.mem_of_getElem? (i := 23) rfl)
theorem q30_0 : (Cond.selects RX6 yX6_rateOfRail yX6_rateOfRail) ∈ wsL_law := in_r30 _ (List.mem_of_getElem? (i := 0) rfl)
theorem q30_1 : (Cond.code yX6_rateOfRail cX6_rateOfRail 2 (some .int)) ∈ wsL_law := in_r30 _ (List.mem_of_getElem? (i := 1) rfl)
theorem q30_2 : (Cond.constantLong RX6 219 (10)) ∈ wsL_law := in_r30 _ (List.mem_of_getElem? (i := 2) rfl)
theorem q30_3 : (Cond.methodLink RX6 221 yX2_coveredYears) ∈ wsL_law := in_r30 _ (List.mem_of_getElem? (i := 3) rfl)
theorem q30_4 : (Cond.instanceMethod yX2_coveredYears) ∈ wsL_law := in_r30 _ (List.mem_of_getElem? (i := 4) rfl)
theorem q30_5 : (Cond.selects RX2 yX2_coveredYears yX2_coveredYears) ∈ wsL_law := in_r30 _ (List.mem_of_getElem? (i := 5) rfl)
theorem q30_6 : (Cond.code yX2_coveredYears cX2_coveredYears 4 (some .int)) ∈ wsL_law := in_r30 _ (List.mem_of_getElem? (i := 6) rfl)
theorem q30_7 : (Cond.methodLink RX6 184 yX6_rateOfSpike) ∈ wsL_law := in_r30 _ (List.mem_of_getElem? (i := 7) rfl)
theorem q30_8 : (Cond.instanceMethod yX6_rateOfSpike) ∈ wsL_law := in_r30 _ (List.mem_of_getElem? (i := 8) rfl)
theorem q30_9 : (Cond.selects RX6 yX6_rateOfSpike yX6_rateOfSpike) ∈ wsL_law := in_r30 _ (List.mem_of_getElem? (i := 9) rfl)
theorem q30_10 : (Cond.code yX6_rateOfSpike cX6_rateOfSpike 2 (some .int)) ∈ wsL_law := in_r30 _ (List.mem_of_getElem? (i := 10) rfl)
theorem q30_11 : (Cond.constantLong RX6 224 (100)) ∈ wsL_law := in_r30 _ (List.mem_of_getElem? (i := 11) rfl)
theorem q30_12 : (Cond.methodLink RX6 226 yX1_holdsOf) ∈ wsL_law := in_r30 _ (List.mem_of_getElem? (i := 12) rfl)
theorem q30_13 : (Cond.instanceMethod yX1_holdsOf) ∈ wsL_law := in_r30 _ (List.mem_of_getElem? (i := 13) rfl)
theorem q30_14 : (Cond.selects RX1 yX1_holdsOf yX1_holdsOf) ∈ wsL_law := in_r30 _ (List.mem_of_getElem? (i := 14) rfl)
theorem q30_15 : (Cond.code yX1_holdsOf cX1_holdsOf 4 (some .int)) ∈ wsL_law := in_r30 _ (List.mem_of_getElem? (i := 15) rfl)
theorem q30_16 : (Cond.methodLink RX6 187 yX6_rateOfGate) ∈ wsL_law := in_r30 _ (List.mem_of_getElem? (i := 16) rfl)
theorem q30_17 : (Cond.instanceMethod yX6_rateOfGate) ∈ wsL_law := in_r30 _ (List.mem_of_getElem? (i := 17) rfl)
theorem q30_18 : (Cond.selects RX6 yX6_rateOfGate yX6_rateOfGate) ∈ wsL_law := in_r30 _ (List.mem_of_getElem? (i := 18) rfl)
theorem q30_19 : (Cond.code yX6_rateOfGate cX6_rateOfGate 2 (some .int)) ∈ wsL_law := in_r30 _ (List.mem_of_getElem? (i := 19) rfl)
theorem q30_20 : (Cond.constantLong RX6 229 (1000)) ∈ wsL_law := in_r30 _ (List.mem_of_getElem? (i := 20) rfl)
theorem q30_21 : (Cond.methodLink RX6 190 yX6_rateOfFinial) ∈ wsL_law := in_r30 _ (List.mem_of_getElem? (i := 21) rfl)
theorem q30_22 : (Cond.instanceMethod yX6_rateOfFinial) ∈ wsL_law := in_r30 _ (List.mem_of_getElem? (i := 22) rfl)
theorem q30_23 : (Cond.selects RX6 yX6_rateOfFinial yX6_rateOfFinial) ∈ wsL_law := in_r30 _ (List.mem_of_getElem? (i := 23) rfl)
theorem q31_0 : (Cond.code yX6_rateOfFinial cX6_rateOfFinial 2 (some .int)) ∈ wsL_law := in_r31 _ (List.mem_of_getElem? (i := 0) rfl)
theorem q31_1 : (Cond.constantLong RX6 231 (10000)) ∈ wsL_law := in_r31 _ (List.mem_of_getElem? (i := 1) rfl)
theorem q31_2 : (Cond.methodLink RX6 193 yX6_rateOfNewOne) ∈ wsL_law := in_r31 _ (List.mem_of_getElem? (i := 2) rfl)
theorem q31_3 : (Cond.instanceMethod yX6_rateOfNewOne) ∈ wsL_law := in_r31 _ (List.mem_of_getElem? (i := 3) rfl)
theorem q31_4 : (Cond.selects RX6 yX6_rateOfNewOne yX6_rateOfNewOne) ∈ wsL_law := in_r31 _ (List.mem_of_getElem? (i := 4) rfl)
theorem q31_5 : (Cond.code yX6_rateOfNewOne cX6_rateOfNewOne 2 (some .int)) ∈ wsL_law := in_r31 _ (List.mem_of_getElem? (i := 5) rfl)
theorem q31_6 : (Cond.constantLong RX6 233 (100000)) ∈ wsL_law := in_r31 _ (List.mem_of_getElem? (i := 6) rfl)
theorem q31_11 : (Cond.constant RX7 162 (-1000000)) ∈ wsL_law := in_r31 _ (List.mem_of_getElem? (i := 11) rfl)
theorem q31_12 : (Cond.fieldLink RX7 163 "LeanedBarsModel" "trace" "J") ∈ wsL_law := in_r31 _ (List.mem_of_getElem? (i := 12) rfl)
theorem q31_13 : (Cond.constantLong RX7 167 (11)) ∈ wsL_law := in_r31 _ (List.mem_of_getElem? (i := 13) rfl)
theorem q31_14 : (Cond.constantLong RX7 169 (101)) ∈ wsL_law := in_r31 _ (List.mem_of_getElem? (i := 14) rfl)
theorem q31_15 : (Cond.constantLong RX7 171 (1011)) ∈ wsL_law := in_r31 _ (List.mem_of_getElem? (i := 15) rfl)
theorem q31_16 : (Cond.constantLong RX7 173 (10101)) ∈ wsL_law := in_r31 _ (List.mem_of_getElem? (i := 16) rfl)
theorem q31_17 : (Cond.constantLong RX7 175 (100001)) ∈ wsL_law := in_r31 _ (List.mem_of_getElem? (i := 17) rfl)
theorem q31_22 : (Cond.methodLink RX6 196 yX1_become) ∈ wsL_law := in_r31 _ (List.mem_of_getElem? (i := 22) rfl)
theorem q31_23 : (Cond.instanceMethod yX1_become) ∈ wsL_law := in_r31 _ (List.mem_of_getElem? (i := 23) rfl)
theorem q32_0 : (Cond.selects RX1 yX1_become yX1_become) ∈ wsL_law := in_r32 _ (List.mem_of_getElem? (i := 0) rfl)
theorem q32_1 : (Cond.code yX1_become cX1_become 2 none) ∈ wsL_law := in_r32 _ (List.mem_of_getElem? (i := 1) rfl)
theorem q32_2 : (Cond.methodLink RX1 37 arraycopyName) ∈ wsL_law := in_r32 _ (List.mem_of_getElem? (i := 2) rfl)
theorem q32_19 : (Cond.fieldLink RX6 199 "LeanedBars$Railings" "people" "I") ∈ wsL_law := in_r32 _ (List.mem_of_getElem? (i := 19) rfl)
theorem q32_20 : (Cond.fieldLink RX6 201 "LeanedBars$Railings" "paints" "I") ∈ wsL_law := in_r32 _ (List.mem_of_getElem? (i := 20) rfl)
theorem q32_21 : (Cond.methodLink RX6 204 yX1_sightsTold) ∈ wsL_law := in_r32 _ (List.mem_of_getElem? (i := 21) rfl)
theorem q32_22 : (Cond.instanceMethod yX1_sightsTold) ∈ wsL_law := in_r32 _ (List.mem_of_getElem? (i := 22) rfl)
theorem q32_23 : (Cond.selects RX1 yX1_sightsTold yX1_sightsTold) ∈ wsL_law := in_r32 _ (List.mem_of_getElem? (i := 23) rfl)
theorem q33_0 : (Cond.code yX1_sightsTold cX1_sightsTold 3 (some .int)) ∈ wsL_law := in_r33 _ (List.mem_of_getElem? (i := 0) rfl)
def zok (v : Int32) : Prop := narrow .boolean (.int v) = .int v
theorem zok0 : zok 0 := rfl
theorem zok1 : zok 1 := rfl
theorem jn {α : Sort _} {F : α} {P : α → Prop} (h : ∀ J, J = F → P J) : ∃ J, J = F ∧ P J := ⟨F, rfl, h F rfl⟩
theorem sw_cases (x : Int32) (hi : Nat) : (x.toInt < 0 ∨ (hi : Int) < x.toInt) ∨ ∃ k : Nat, k ≤ hi ∧ x = nI k := by
  by_cases h1 : x.toInt < 0
  · exact Or.inl (Or.inl h1)
  · by_cases h2 : (hi : Int) < x.toInt
    · exact Or.inl (Or.inr h2)
    · refine Or.inr ⟨x.toInt.toNat, by omega, ?_⟩
      apply Int32.toInt_inj.mp
      have h3 : x.toInt < 2 ^ 31 := Int32.toInt_lt x
      rw [nI_toInt (by omega)]
      omega
theorem im_cases {x : Int32} (h : vp_in x 2) : x = nI 0 ∨ x = nI 1 := by
  obtain ⟨j, hj, e⟩ := vp_in_of h (by decide)
  rcases (show j = 0 ∨ j = 1 by omega) with rfl | rfl
  · exact Or.inl e
  · exact Or.inr e
section
variable {Z : Zt} {e : GE} {cc : ByteArray} {nL : Nat} {own : String} {h pc : Nat} {lv : List (Nat × Value)} {st : List Value} {S : St}
theorem m_topi {x : Int32} (k : ∀ y : Int32, y = x → MW Z e cc nL own h pc lv (.int y :: st) S) : MW Z e cc nL own h pc lv (.int x :: st) S := k x rfl
theorem m_topl {x : Int64} (k : ∀ y : Int64, y = x → MW Z e cc nL own h pc lv (.long y :: st) S) : MW Z e cc nL own h pc lv (.long x :: st) S := k x rfl
theorem m_sw {dflt hi : Int} {offs : Array Int} {len : Nat} {x : Int32} {off : Int} {tgt : Nat} (k : Nat) (hx : x = nI k) (d : decode cc pc = .ok (.tableswitch dflt 0 hi offs, len)) (h1 : ¬ (nI k).toInt < 0) (h2 : ¬ hi < (nI k).toInt) (ho : offs[((nI k).toInt - 0).toNat]? = some off) (ht : (pc : Int) + off = (tgt : Int)) (kk : MW Z e cc nL own h tgt lv st S) : MW Z e cc nL own h pc lv (.int x :: st) S := by
  subst hx
  exact m_tableIn d h1 h2 ho ht kk
/-- the world may be said by another state, where an array holds the same in its places -/
theorem m_cong {S2 : St} {n : Nat} {f f2 : Nat → Int32} (q0 t0 : Nat) (ho : (WW e S)[q0]? = some (e.2.2.1 q0, .inl (e.2.1 t0, n, .inl f))) (hw : (WW e S).set q0 (e.2.2.1 q0, .inl (e.2.1 t0, n, .inl f2)) = WW e S2) (hf : ∀ j, j < n → f j = f2 j) (k : MW Z e cc nL own h pc lv st S2) : MW Z e cc nL own h pc lv st S := by
  obtain ⟨p, l, ee, R, s, m, args, below, meth, c, A, ⟨ck, cn⟩, Qf⟩ := Z
  intro g H locs ls hl hP hD hS
  have e1 : (WW e S).set q0 (e.2.2.1 q0, .inl (e.2.1 t0, n, .inl f)) = WW e S := by
    apply List.ext_getElem?
    intro i
    by_cases hi : i = q0
    · subst hi
      rw [List.getElem?_set_self (List.getElem?_eq_some_iff.mp ho).1, ho]
    · rw [List.getElem?_set_ne (fun z => hi z.symm)]
  exact k g H locs ls hl (hw ▸ P_cong ho (cell_cong hf) (e1.symm ▸ hP)) (WW_D S2 hD) hS
theorem m_getCS {index : Nat} (q : .fieldLink own index "java/lang/String" "COMPACT_STRINGS" "Z" ∈ wsL_law) (d : decode cc pc = .ok (.getstatic index, 3)) (k : MW Z e cc nL own h (pc + 3) lv (.int 1 :: st) S) : MW Z e cc nL own h pc lv st S := by
  obtain ⟨p, l, ee, R, s, m, args, below, meth, c, A, ⟨ck, cn⟩, Qf⟩ := Z
  intro g H locs ls hl hP hD hS
  exact va_gets g.1 g.2.1 g.2.2.2.2.2.2.1.2.1 hS g.2.2.2.1 (g.2.2.2.2.1 _ q) (fun _ z => z) d (k g H locs ls hl hP hD hS)
theorem m_getSF {index : Nat} (q : .fieldLink own index "jdk/internal/util/Preconditions" "SIOOBE_FORMATTER" "Ljava/util/function/BiFunction;" ∈ wsL_law) (d : decode cc pc = .ok (.getstatic index, 3)) (k : ∀ v : Value, (v = .null ∨ ∃ t : Nat, v = .ref t) → MW Z e cc nL own h (pc + 3) lv (v :: st) S) : MW Z e cc nL own h pc lv st S := by
  obtain ⟨p, l, ee, R, s, m, args, below, meth, c, A, ⟨ck, cn⟩, Qf⟩ := Z
  intro g H locs ls hl hP hD hS
  rcases g.2.2.2.2.2.2.1.2.2 with hz | ⟨t, hz⟩
  · exact va_gets g.1 g.2.1 hz hS g.2.2.2.1 (g.2.2.2.2.1 _ q) (fun _ z => z) d (k .null (Or.inl rfl) g H locs ls hl hP hD hS)
  · exact va_gets g.1 g.2.1 hz hS g.2.2.2.1 (g.2.2.2.2.1 _ q) (fun _ z => z) d (k (.ref t) (Or.inr ⟨t, rfl⟩) g H locs ls hl hP hD hS)
theorem m_strval {index i : Nat} (hi : i < 4) (q : .fieldLink own index "java/lang/String" "value" "[B" ∈ wsL_law) (d : decode cc pc = .ok (.getfield index, 3)) (k : MW Z e cc nL own h (pc + 3) lv (.ref (e.2.2.2.2 i) :: st) S) : MW Z e cc nL own h pc lv (.ref (e.2.2.2.1 i) :: st) S := by
  obtain ⟨p, l, ee, R, s, m, args, below, meth, c, A, ⟨ck, cn⟩, Qf⟩ := Z
  intro g H locs ls hl hP hD hS
  exact vk_getf g.1 g.2.1 (g.2.2.2.2.2.2.1.1.1 i hi).2.2.1 hS g.2.2.2.1 (g.2.2.2.2.1 _ q) (fun _ z => z) d (k g H locs ls hl hP hD hS)
theorem m_strcod {index i : Nat} (hi : i < 4) (q : .fieldLink own index "java/lang/String" "coder" "B" ∈ wsL_law) (d : decode cc pc = .ok (.getfield index, 3)) (k : MW Z e cc nL own h (pc + 3) lv (.int 0 :: st) S) : MW Z e cc nL own h pc lv (.ref (e.2.2.2.1 i) :: st) S := by
  obtain ⟨p, l, ee, R, s, m, args, below, meth, c, A, ⟨ck, cn⟩, Qf⟩ := Z
  intro g H locs ls hl hP hD hS
  exact vk_getf g.1 g.2.1 (g.2.2.2.2.2.2.1.1.1 i hi).2.1 hS g.2.2.2.1 (g.2.2.2.2.1 _ q) (fun _ z => z) d (k g H locs ls hl hP hD hS)
theorem m_strlen {i : Nat} (hi : i < 4) (d : decode cc pc = .ok (.arraylength, 1)) (k : MW Z e cc nL own h (pc + 1) lv (.int (nI (lenS.getD i 0)) :: st) S) : MW Z e cc nL own h pc lv (.ref (e.2.2.2.2 i) :: st) S := by
  obtain ⟨p, l, ee, R, s, m, args, below, meth, c, A, ⟨ck, cn⟩, Qf⟩ := Z
  intro g H locs ls hl hP hD hS
  exact va_tlen g.1 g.2.1 (g.2.2.2.2.2.2.1.1.1 i hi).2.2.2 hS rfl d (k g H locs ls hl hP hD hS)
theorem m_strld {i : Nat} {x : Int32} (hi : i < 4) (hin : vp_in x (lenS.getD i 0)) (d : decode cc pc = .ok (.baload, 1)) (k : MW Z e cc nL own h (pc + 1) lv (.int ((bytS.getD i []).getD x.toNatClampNeg 0) :: st) S) : MW Z e cc nL own h pc lv (.int x :: .ref (e.2.2.2.2 i) :: st) S := by
  obtain ⟨p, l, ee, R, s, m, args, below, meth, c, A, ⟨ck, cn⟩, Qf⟩ := Z
  intro g H locs ls hl hP hD hS
  exact va_tb g.1 g.2.1 (g.2.2.2.2.2.2.1.1.1 i hi).2.2.2 hS hin rfl d (k g H locs ls hl hP hD hS)
end
theorem nk_4_19 : ∀ U : State, NK U → va_Nw (.methodLinkNest RX4 19 yX6_within RX6) U := fun _ h => h.1
theorem nk_3_103 : ∀ U : State, NK U → va_Nw (.methodLinkNest RX3 103 yX6_within RX6) U := fun _ h => h.2.1
theorem nk_2_52 : ∀ U : State, NK U → va_Nw (.methodLinkNest RX2 52 yX6_within RX6) U := fun _ h => h.2.2.1
theorem nk_5_105 : ∀ U : State, NK U → va_Nw (.methodLinkNest RX5 105 yX6_within RX6) U := fun _ h => h.2.2.2.1
theorem t_X0_add : yX0_add.cls ≠ "java/lang/invoke/MethodHandle" ∧ yX0_add.cls ≠ "java/lang/invoke/VarHandle" ∧ (parseMethodDescriptor yX0_add.desc).map (fun d => d.parameters.length) = some 2 := ⟨by decide, by decide, by decide +kernel⟩
theorem t_X0_exchange : yX0_exchange.cls ≠ "java/lang/invoke/MethodHandle" ∧ yX0_exchange.cls ≠ "java/lang/invoke/VarHandle" ∧ (parseMethodDescriptor yX0_exchange.desc).map (fun d => d.parameters.length) = some 3 := ⟨by decide, by decide, by decide +kernel⟩
theorem t_X0_fewest : yX0_fewest.cls ≠ "java/lang/invoke/MethodHandle" ∧ yX0_fewest.cls ≠ "java/lang/invoke/VarHandle" ∧ (parseMethodDescriptor yX0_fewest.desc).map (fun d => d.parameters.length) = some 0 := ⟨by decide, by decide, by decide +kernel⟩
theorem t_X0_fewestFrom : yX0_fewestFrom.cls ≠ "java/lang/invoke/MethodHandle" ∧ yX0_fewestFrom.cls ≠ "java/lang/invoke/VarHandle" ∧ (parseMethodDescriptor yX0_fewestFrom.desc).map (fun d => d.parameters.length) = some 4 := ⟨by decide, by decide, by decide +kernel⟩
theorem t_X1_add : yX1_add.cls ≠ "java/lang/invoke/MethodHandle" ∧ yX1_add.cls ≠ "java/lang/invoke/VarHandle" ∧ (parseMethodDescriptor yX1_add.desc).map (fun d => d.parameters.length) = some 4 := ⟨by decide, by decide, by decide +kernel⟩
theorem t_X1_become : yX1_become.cls ≠ "java/lang/invoke/MethodHandle" ∧ yX1_become.cls ≠ "java/lang/invoke/VarHandle" ∧ (parseMethodDescriptor yX1_become.desc).map (fun d => d.parameters.length) = some 1 := ⟨by decide, by decide, by decide +kernel⟩
theorem t_X1_forget : yX1_forget.cls ≠ "java/lang/invoke/MethodHandle" ∧ yX1_forget.cls ≠ "java/lang/invoke/VarHandle" ∧ (parseMethodDescriptor yX1_forget.desc).map (fun d => d.parameters.length) = some 0 := ⟨by decide, by decide, by decide +kernel⟩
theorem t_X1_holdsOf : yX1_holdsOf.cls ≠ "java/lang/invoke/MethodHandle" ∧ yX1_holdsOf.cls ≠ "java/lang/invoke/VarHandle" ∧ (parseMethodDescriptor yX1_holdsOf.desc).map (fun d => d.parameters.length) = some 1 := ⟨by decide, by decide, by decide +kernel⟩
theorem t_X1_sightsTold : yX1_sightsTold.cls ≠ "java/lang/invoke/MethodHandle" ∧ yX1_sightsTold.cls ≠ "java/lang/invoke/VarHandle" ∧ (parseMethodDescriptor yX1_sightsTold.desc).map (fun d => d.parameters.length) = some 0 := ⟨by decide, by decide, by decide +kernel⟩
theorem t_X2_addBar : yX2_addBar.cls ≠ "java/lang/invoke/MethodHandle" ∧ yX2_addBar.cls ≠ "java/lang/invoke/VarHandle" ∧ (parseMethodDescriptor yX2_addBar.desc).map (fun d => d.parameters.length) = some 1 := ⟨by decide, by decide, by decide +kernel⟩
theorem t_X2_addPaint : yX2_addPaint.cls ≠ "java/lang/invoke/MethodHandle" ∧ yX2_addPaint.cls ≠ "java/lang/invoke/VarHandle" ∧ (parseMethodDescriptor yX2_addPaint.desc).map (fun d => d.parameters.length) = some 3 := ⟨by decide, by decide, by decide +kernel⟩
theorem t_X2_addPerson : yX2_addPerson.cls ≠ "java/lang/invoke/MethodHandle" ∧ yX2_addPerson.cls ≠ "java/lang/invoke/VarHandle" ∧ (parseMethodDescriptor yX2_addPerson.desc).map (fun d => d.parameters.length) = some 1 := ⟨by decide, by decide, by decide +kernel⟩
theorem t_X2_become : yX2_become.cls ≠ "java/lang/invoke/MethodHandle" ∧ yX2_become.cls ≠ "java/lang/invoke/VarHandle" ∧ (parseMethodDescriptor yX2_become.desc).map (fun d => d.parameters.length) = some 1 := ⟨by decide, by decide, by decide +kernel⟩
theorem t_X2_coveredYears : yX2_coveredYears.cls ≠ "java/lang/invoke/MethodHandle" ∧ yX2_coveredYears.cls ≠ "java/lang/invoke/VarHandle" ∧ (parseMethodDescriptor yX2_coveredYears.desc).map (fun d => d.parameters.length) = some 1 := ⟨by decide, by decide, by decide +kernel⟩
theorem t_X2_dryYears : yX2_dryYears.cls ≠ "java/lang/invoke/MethodHandle" ∧ yX2_dryYears.cls ≠ "java/lang/invoke/VarHandle" ∧ (parseMethodDescriptor yX2_dryYears.desc).map (fun d => d.parameters.length) = some 3 := ⟨by decide, by decide, by decide +kernel⟩
theorem t_X2_empty : yX2_empty.cls ≠ "java/lang/invoke/MethodHandle" ∧ yX2_empty.cls ≠ "java/lang/invoke/VarHandle" ∧ (parseMethodDescriptor yX2_empty.desc).map (fun d => d.parameters.length) = some 0 := ⟨by decide, by decide, by decide +kernel⟩
theorem t_X2_hasBar : yX2_hasBar.cls ≠ "java/lang/invoke/MethodHandle" ∧ yX2_hasBar.cls ≠ "java/lang/invoke/VarHandle" ∧ (parseMethodDescriptor yX2_hasBar.desc).map (fun d => d.parameters.length) = some 1 := ⟨by decide, by decide, by decide +kernel⟩
theorem t_X2_hasPerson : yX2_hasPerson.cls ≠ "java/lang/invoke/MethodHandle" ∧ yX2_hasPerson.cls ≠ "java/lang/invoke/VarHandle" ∧ (parseMethodDescriptor yX2_hasPerson.desc).map (fun d => d.parameters.length) = some 1 := ⟨by decide, by decide, by decide +kernel⟩
theorem t_X2_isCovered : yX2_isCovered.cls ≠ "java/lang/invoke/MethodHandle" ∧ yX2_isCovered.cls ≠ "java/lang/invoke/VarHandle" ∧ (parseMethodDescriptor yX2_isCovered.desc).map (fun d => d.parameters.length) = some 2 := ⟨by decide, by decide, by decide +kernel⟩
theorem t_X2_isWet : yX2_isWet.cls ≠ "java/lang/invoke/MethodHandle" ∧ yX2_isWet.cls ≠ "java/lang/invoke/VarHandle" ∧ (parseMethodDescriptor yX2_isWet.desc).map (fun d => d.parameters.length) = some 2 := ⟨by decide, by decide, by decide +kernel⟩
theorem t_X2_weather : yX2_weather.cls ≠ "java/lang/invoke/MethodHandle" ∧ yX2_weather.cls ≠ "java/lang/invoke/VarHandle" ∧ (parseMethodDescriptor yX2_weather.desc).map (fun d => d.parameters.length) = some 2 := ⟨by decide, by decide, by decide +kernel⟩
theorem t_X3_next : yX3_next.cls ≠ "java/lang/invoke/MethodHandle" ∧ yX3_next.cls ≠ "java/lang/invoke/VarHandle" ∧ (parseMethodDescriptor yX3_next.desc).map (fun d => d.parameters.length) = some 0 := ⟨by decide, by decide, by decide +kernel⟩
theorem t_X3_read : yX3_read.cls ≠ "java/lang/invoke/MethodHandle" ∧ yX3_read.cls ≠ "java/lang/invoke/VarHandle" ∧ (parseMethodDescriptor yX3_read.desc).map (fun d => d.parameters.length) = some 0 := ⟨by decide, by decide, by decide +kernel⟩
theorem t_X3_readBar : yX3_readBar.cls ≠ "java/lang/invoke/MethodHandle" ∧ yX3_readBar.cls ≠ "java/lang/invoke/VarHandle" ∧ (parseMethodDescriptor yX3_readBar.desc).map (fun d => d.parameters.length) = some 0 := ⟨by decide, by decide, by decide +kernel⟩
theorem t_X3_readItem : yX3_readItem.cls ≠ "java/lang/invoke/MethodHandle" ∧ yX3_readItem.cls ≠ "java/lang/invoke/VarHandle" ∧ (parseMethodDescriptor yX3_readItem.desc).map (fun d => d.parameters.length) = some 0 := ⟨by decide, by decide, by decide +kernel⟩
theorem t_X3_readPaint : yX3_readPaint.cls ≠ "java/lang/invoke/MethodHandle" ∧ yX3_readPaint.cls ≠ "java/lang/invoke/VarHandle" ∧ (parseMethodDescriptor yX3_readPaint.desc).map (fun d => d.parameters.length) = some 0 := ⟨by decide, by decide, by decide +kernel⟩
theorem t_X3_readPerson : yX3_readPerson.cls ≠ "java/lang/invoke/MethodHandle" ∧ yX3_readPerson.cls ≠ "java/lang/invoke/VarHandle" ∧ (parseMethodDescriptor yX3_readPerson.desc).map (fun d => d.parameters.length) = some 0 := ⟨by decide, by decide, by decide +kernel⟩
theorem t_X3_readRain : yX3_readRain.cls ≠ "java/lang/invoke/MethodHandle" ∧ yX3_readRain.cls ≠ "java/lang/invoke/VarHandle" ∧ (parseMethodDescriptor yX3_readRain.desc).map (fun d => d.parameters.length) = some 0 := ⟨by decide, by decide, by decide +kernel⟩
theorem t_X3_take : yX3_take.cls ≠ "java/lang/invoke/MethodHandle" ∧ yX3_take.cls ≠ "java/lang/invoke/VarHandle" ∧ (parseMethodDescriptor yX3_take.desc).map (fun d => d.parameters.length) = some 2 := ⟨by decide, by decide, by decide +kernel⟩
theorem t_X3_takeStop : yX3_takeStop.cls ≠ "java/lang/invoke/MethodHandle" ∧ yX3_takeStop.cls ≠ "java/lang/invoke/VarHandle" ∧ (parseMethodDescriptor yX3_takeStop.desc).map (fun d => d.parameters.length) = some 0 := ⟨by decide, by decide, by decide +kernel⟩
theorem t_X4_append : yX4_append.cls ≠ "java/lang/invoke/MethodHandle" ∧ yX4_append.cls ≠ "java/lang/invoke/VarHandle" ∧ (parseMethodDescriptor yX4_append.desc).map (fun d => d.parameters.length) = some 2 := ⟨by decide, by decide, by decide +kernel⟩
theorem t_X4_behindRow : yX4_behindRow.cls ≠ "java/lang/invoke/MethodHandle" ∧ yX4_behindRow.cls ≠ "java/lang/invoke/VarHandle" ∧ (parseMethodDescriptor yX4_behindRow.desc).map (fun d => d.parameters.length) = some 3 := ⟨by decide, by decide, by decide +kernel⟩
theorem t_X4_isSign : yX4_isSign.cls ≠ "java/lang/invoke/MethodHandle" ∧ yX4_isSign.cls ≠ "java/lang/invoke/VarHandle" ∧ (parseMethodDescriptor yX4_isSign.desc).map (fun d => d.parameters.length) = some 2 := ⟨by decide, by decide, by decide +kernel⟩
theorem t_X4_isWord : yX4_isWord.cls ≠ "java/lang/invoke/MethodHandle" ∧ yX4_isWord.cls ≠ "java/lang/invoke/VarHandle" ∧ (parseMethodDescriptor yX4_isWord.desc).map (fun d => d.parameters.length) = some 3 := ⟨by decide, by decide, by decide +kernel⟩
theorem t_X4_numberIn : yX4_numberIn.cls ≠ "java/lang/invoke/MethodHandle" ∧ yX4_numberIn.cls ≠ "java/lang/invoke/VarHandle" ∧ (parseMethodDescriptor yX4_numberIn.desc).map (fun d => d.parameters.length) = some 2 := ⟨by decide, by decide, by decide +kernel⟩
theorem t_X5_all : yX5_all.cls ≠ "java/lang/invoke/MethodHandle" ∧ yX5_all.cls ≠ "java/lang/invoke/VarHandle" ∧ (parseMethodDescriptor yX5_all.desc).map (fun d => d.parameters.length) = some 0 := ⟨by decide, by decide, by decide +kernel⟩
theorem t_X5_canHaveHeld : yX5_canHaveHeld.cls ≠ "java/lang/invoke/MethodHandle" ∧ yX5_canHaveHeld.cls ≠ "java/lang/invoke/VarHandle" ∧ (parseMethodDescriptor yX5_canHaveHeld.desc).map (fun d => d.parameters.length) = some 3 := ⟨by decide, by decide, by decide +kernel⟩
theorem t_X5_gather : yX5_gather.cls ≠ "java/lang/invoke/MethodHandle" ∧ yX5_gather.cls ≠ "java/lang/invoke/VarHandle" ∧ (parseMethodDescriptor yX5_gather.desc).map (fun d => d.parameters.length) = some 1 := ⟨by decide, by decide, by decide +kernel⟩
theorem t_X5_gatherBar : yX5_gatherBar.cls ≠ "java/lang/invoke/MethodHandle" ∧ yX5_gatherBar.cls ≠ "java/lang/invoke/VarHandle" ∧ (parseMethodDescriptor yX5_gatherBar.desc).map (fun d => d.parameters.length) = some 1 := ⟨by decide, by decide, by decide +kernel⟩
theorem t_X5_holding : yX5_holding.cls ≠ "java/lang/invoke/MethodHandle" ∧ yX5_holding.cls ≠ "java/lang/invoke/VarHandle" ∧ (parseMethodDescriptor yX5_holding.desc).map (fun d => d.parameters.length) = some 2 := ⟨by decide, by decide, by decide +kernel⟩
theorem t_X5_holdingNone : yX5_holdingNone.cls ≠ "java/lang/invoke/MethodHandle" ∧ yX5_holdingNone.cls ≠ "java/lang/invoke/VarHandle" ∧ (parseMethodDescriptor yX5_holdingNone.desc).map (fun d => d.parameters.length) = some 1 := ⟨by decide, by decide, by decide +kernel⟩
theorem t_X5_isIn : yX5_isIn.cls ≠ "java/lang/invoke/MethodHandle" ∧ yX5_isIn.cls ≠ "java/lang/invoke/VarHandle" ∧ (parseMethodDescriptor yX5_isIn.desc).map (fun d => d.parameters.length) = some 2 := ⟨by decide, by decide, by decide +kernel⟩
theorem t_X5_learn : yX5_learn.cls ≠ "java/lang/invoke/MethodHandle" ∧ yX5_learn.cls ≠ "java/lang/invoke/VarHandle" ∧ (parseMethodDescriptor yX5_learn.desc).map (fun d => d.parameters.length) = some 2 := ⟨by decide, by decide, by decide +kernel⟩
theorem t_X5_leaves : yX5_leaves.cls ≠ "java/lang/invoke/MethodHandle" ∧ yX5_leaves.cls ≠ "java/lang/invoke/VarHandle" ∧ (parseMethodDescriptor yX5_leaves.desc).map (fun d => d.parameters.length) = some 3 := ⟨by decide, by decide, by decide +kernel⟩
theorem t_X5_leftAtWorst : yX5_leftAtWorst.cls ≠ "java/lang/invoke/MethodHandle" ∧ yX5_leftAtWorst.cls ≠ "java/lang/invoke/VarHandle" ∧ (parseMethodDescriptor yX5_leftAtWorst.desc).map (fun d => d.parameters.length) = some 1 := ⟨by decide, by decide, by decide +kernel⟩
theorem t_X5_spread : yX5_spread.cls ≠ "java/lang/invoke/MethodHandle" ∧ yX5_spread.cls ≠ "java/lang/invoke/VarHandle" ∧ (parseMethodDescriptor yX5_spread.desc).map (fun d => d.parameters.length) = some 6 := ⟨by decide, by decide, by decide +kernel⟩
theorem t_X5_waysBeside : yX5_waysBeside.cls ≠ "java/lang/invoke/MethodHandle" ∧ yX5_waysBeside.cls ≠ "java/lang/invoke/VarHandle" ∧ (parseMethodDescriptor yX5_waysBeside.desc).map (fun d => d.parameters.length) = some 1 := ⟨by decide, by decide, by decide +kernel⟩
theorem t_X5_winters : yX5_winters.cls ≠ "java/lang/invoke/MethodHandle" ∧ yX5_winters.cls ≠ "java/lang/invoke/VarHandle" ∧ (parseMethodDescriptor yX5_winters.desc).map (fun d => d.parameters.length) = some 3 := ⟨by decide, by decide, by decide +kernel⟩
theorem t_X5_wintersFrom : yX5_wintersFrom.cls ≠ "java/lang/invoke/MethodHandle" ∧ yX5_wintersFrom.cls ≠ "java/lang/invoke/VarHandle" ∧ (parseMethodDescriptor yX5_wintersFrom.desc).map (fun d => d.parameters.length) = some 5 := ⟨by decide, by decide, by decide +kernel⟩
theorem t_X6_commonDivisor : yX6_commonDivisor.cls ≠ "java/lang/invoke/MethodHandle" ∧ yX6_commonDivisor.cls ≠ "java/lang/invoke/VarHandle" ∧ (parseMethodDescriptor yX6_commonDivisor.desc).map (fun d => d.parameters.length) = some 2 := ⟨by decide, by decide, by decide +kernel⟩
theorem t_X6_isClaim : yX6_isClaim.cls ≠ "java/lang/invoke/MethodHandle" ∧ yX6_isClaim.cls ≠ "java/lang/invoke/VarHandle" ∧ (parseMethodDescriptor yX6_isClaim.desc).map (fun d => d.parameters.length) = some 3 := ⟨by decide, by decide, by decide +kernel⟩
theorem t_X6_isYear : yX6_isYear.cls ≠ "java/lang/invoke/MethodHandle" ∧ yX6_isYear.cls ≠ "java/lang/invoke/VarHandle" ∧ (parseMethodDescriptor yX6_isYear.desc).map (fun d => d.parameters.length) = some 1 := ⟨by decide, by decide, by decide +kernel⟩
theorem t_X6_rateOfBar : yX6_rateOfBar.cls ≠ "java/lang/invoke/MethodHandle" ∧ yX6_rateOfBar.cls ≠ "java/lang/invoke/VarHandle" ∧ (parseMethodDescriptor yX6_rateOfBar.desc).map (fun d => d.parameters.length) = some 1 := ⟨by decide, by decide, by decide +kernel⟩
theorem t_X6_rateOfFinial : yX6_rateOfFinial.cls ≠ "java/lang/invoke/MethodHandle" ∧ yX6_rateOfFinial.cls ≠ "java/lang/invoke/VarHandle" ∧ (parseMethodDescriptor yX6_rateOfFinial.desc).map (fun d => d.parameters.length) = some 1 := ⟨by decide, by decide, by decide +kernel⟩
theorem t_X6_rateOfGate : yX6_rateOfGate.cls ≠ "java/lang/invoke/MethodHandle" ∧ yX6_rateOfGate.cls ≠ "java/lang/invoke/VarHandle" ∧ (parseMethodDescriptor yX6_rateOfGate.desc).map (fun d => d.parameters.length) = some 1 := ⟨by decide, by decide, by decide +kernel⟩
theorem t_X6_rateOfNewOne : yX6_rateOfNewOne.cls ≠ "java/lang/invoke/MethodHandle" ∧ yX6_rateOfNewOne.cls ≠ "java/lang/invoke/VarHandle" ∧ (parseMethodDescriptor yX6_rateOfNewOne.desc).map (fun d => d.parameters.length) = some 1 := ⟨by decide, by decide, by decide +kernel⟩
theorem t_X6_rateOfRail : yX6_rateOfRail.cls ≠ "java/lang/invoke/MethodHandle" ∧ yX6_rateOfRail.cls ≠ "java/lang/invoke/VarHandle" ∧ (parseMethodDescriptor yX6_rateOfRail.desc).map (fun d => d.parameters.length) = some 1 := ⟨by decide, by decide, by decide +kernel⟩
theorem t_X6_rateOfSpike : yX6_rateOfSpike.cls ≠ "java/lang/invoke/MethodHandle" ∧ yX6_rateOfSpike.cls ≠ "java/lang/invoke/VarHandle" ∧ (parseMethodDescriptor yX6_rateOfSpike.desc).map (fun d => d.parameters.length) = some 1 := ⟨by decide, by decide, by decide +kernel⟩
theorem t_X6_rustByHolds : yX6_rustByHolds.cls ≠ "java/lang/invoke/MethodHandle" ∧ yX6_rustByHolds.cls ≠ "java/lang/invoke/VarHandle" ∧ (parseMethodDescriptor yX6_rustByHolds.desc).map (fun d => d.parameters.length) = some 2 := ⟨by decide, by decide, by decide +kernel⟩
theorem t_X6_within : yX6_within.cls ≠ "java/lang/invoke/MethodHandle" ∧ yX6_within.cls ≠ "java/lang/invoke/VarHandle" ∧ (parseMethodDescriptor yX6_within.desc).map (fun d => d.parameters.length) = some 3 := ⟨by decide, by decide, by decide +kernel⟩
theorem t_X7_barOf : yX7_barOf.cls ≠ "java/lang/invoke/MethodHandle" ∧ yX7_barOf.cls ≠ "java/lang/invoke/VarHandle" ∧ (parseMethodDescriptor yX7_barOf.desc).map (fun d => d.parameters.length) = some 1 := ⟨by decide, by decide, by decide +kernel⟩
theorem t_X7_byteAt : yX7_byteAt.cls ≠ "java/lang/invoke/MethodHandle" ∧ yX7_byteAt.cls ≠ "java/lang/invoke/VarHandle" ∧ (parseMethodDescriptor yX7_byteAt.desc).map (fun d => d.parameters.length) = some 1 := ⟨by decide, by decide, by decide +kernel⟩
theorem t_X7_claims : yX7_claims.cls ≠ "java/lang/invoke/MethodHandle" ∧ yX7_claims.cls ≠ "java/lang/invoke/VarHandle" ∧ (parseMethodDescriptor yX7_claims.desc).map (fun d => d.parameters.length) = some 2 := ⟨by decide, by decide, by decide +kernel⟩
theorem t_X7_comesOut : yX7_comesOut.cls ≠ "java/lang/invoke/MethodHandle" ∧ yX7_comesOut.cls ≠ "java/lang/invoke/VarHandle" ∧ (parseMethodDescriptor yX7_comesOut.desc).map (fun d => d.parameters.length) = some 1 := ⟨by decide, by decide, by decide +kernel⟩
theorem t_X7_exchanges : yX7_exchanges.cls ≠ "java/lang/invoke/MethodHandle" ∧ yX7_exchanges.cls ≠ "java/lang/invoke/VarHandle" ∧ (parseMethodDescriptor yX7_exchanges.desc).map (fun d => d.parameters.length) = some 1 := ⟨by decide, by decide, by decide +kernel⟩
theorem t_X7_figure : yX7_figure.cls ≠ "java/lang/invoke/MethodHandle" ∧ yX7_figure.cls ≠ "java/lang/invoke/VarHandle" ∧ (parseMethodDescriptor yX7_figure.desc).map (fun d => d.parameters.length) = some 2 := ⟨by decide, by decide, by decide +kernel⟩
theorem t_X7_figureOf : yX7_figureOf.cls ≠ "java/lang/invoke/MethodHandle" ∧ yX7_figureOf.cls ≠ "java/lang/invoke/VarHandle" ∧ (parseMethodDescriptor yX7_figureOf.desc).map (fun d => d.parameters.length) = some 2 := ⟨by decide, by decide, by decide +kernel⟩
theorem t_X7_in : yX7_in.cls ≠ "java/lang/invoke/MethodHandle" ∧ yX7_in.cls ≠ "java/lang/invoke/VarHandle" ∧ (parseMethodDescriptor yX7_in.desc).map (fun d => d.parameters.length) = some 3 := ⟨by decide, by decide, by decide +kernel⟩
theorem t_X7_isBar : yX7_isBar.cls ≠ "java/lang/invoke/MethodHandle" ∧ yX7_isBar.cls ≠ "java/lang/invoke/VarHandle" ∧ (parseMethodDescriptor yX7_isBar.desc).map (fun d => d.parameters.length) = some 1 := ⟨by decide, by decide, by decide +kernel⟩
theorem t_X7_isClaim : yX7_isClaim.cls ≠ "java/lang/invoke/MethodHandle" ∧ yX7_isClaim.cls ≠ "java/lang/invoke/VarHandle" ∧ (parseMethodDescriptor yX7_isClaim.desc).map (fun d => d.parameters.length) = some 3 := ⟨by decide, by decide, by decide +kernel⟩
theorem t_X7_isPerson : yX7_isPerson.cls ≠ "java/lang/invoke/MethodHandle" ∧ yX7_isPerson.cls ≠ "java/lang/invoke/VarHandle" ∧ (parseMethodDescriptor yX7_isPerson.desc).map (fun d => d.parameters.length) = some 1 := ⟨by decide, by decide, by decide +kernel⟩
theorem t_X7_isWay : yX7_isWay.cls ≠ "java/lang/invoke/MethodHandle" ∧ yX7_isWay.cls ≠ "java/lang/invoke/VarHandle" ∧ (parseMethodDescriptor yX7_isWay.desc).map (fun d => d.parameters.length) = some 1 := ⟨by decide, by decide, by decide +kernel⟩
theorem t_X7_lays : yX7_lays.cls ≠ "java/lang/invoke/MethodHandle" ∧ yX7_lays.cls ≠ "java/lang/invoke/VarHandle" ∧ (parseMethodDescriptor yX7_lays.desc).map (fun d => d.parameters.length) = some 0 := ⟨by decide, by decide, by decide +kernel⟩
theorem t_X7_paintOf : yX7_paintOf.cls ≠ "java/lang/invoke/MethodHandle" ∧ yX7_paintOf.cls ≠ "java/lang/invoke/VarHandle" ∧ (parseMethodDescriptor yX7_paintOf.desc).map (fun d => d.parameters.length) = some 2 := ⟨by decide, by decide, by decide +kernel⟩
theorem t_X7_plain : yX7_plain.cls ≠ "java/lang/invoke/MethodHandle" ∧ yX7_plain.cls ≠ "java/lang/invoke/VarHandle" ∧ (parseMethodDescriptor yX7_plain.desc).map (fun d => d.parameters.length) = some 2 := ⟨by decide, by decide, by decide +kernel⟩
theorem t_X7_reads : yX7_reads.cls ≠ "java/lang/invoke/MethodHandle" ∧ yX7_reads.cls ≠ "java/lang/invoke/VarHandle" ∧ (parseMethodDescriptor yX7_reads.desc).map (fun d => d.parameters.length) = some 0 := ⟨by decide, by decide, by decide +kernel⟩
theorem t_X7_readsBar : yX7_readsBar.cls ≠ "java/lang/invoke/MethodHandle" ∧ yX7_readsBar.cls ≠ "java/lang/invoke/VarHandle" ∧ (parseMethodDescriptor yX7_readsBar.desc).map (fun d => d.parameters.length) = some 0 := ⟨by decide, by decide, by decide +kernel⟩
theorem t_X7_readsItem : yX7_readsItem.cls ≠ "java/lang/invoke/MethodHandle" ∧ yX7_readsItem.cls ≠ "java/lang/invoke/VarHandle" ∧ (parseMethodDescriptor yX7_readsItem.desc).map (fun d => d.parameters.length) = some 1 := ⟨by decide, by decide, by decide +kernel⟩
theorem t_X7_readsPaint : yX7_readsPaint.cls ≠ "java/lang/invoke/MethodHandle" ∧ yX7_readsPaint.cls ≠ "java/lang/invoke/VarHandle" ∧ (parseMethodDescriptor yX7_readsPaint.desc).map (fun d => d.parameters.length) = some 0 := ⟨by decide, by decide, by decide +kernel⟩
theorem t_X7_readsPerson : yX7_readsPerson.cls ≠ "java/lang/invoke/MethodHandle" ∧ yX7_readsPerson.cls ≠ "java/lang/invoke/VarHandle" ∧ (parseMethodDescriptor yX7_readsPerson.desc).map (fun d => d.parameters.length) = some 0 := ⟨by decide, by decide, by decide +kernel⟩
theorem t_X7_readsRain : yX7_readsRain.cls ≠ "java/lang/invoke/MethodHandle" ∧ yX7_readsRain.cls ≠ "java/lang/invoke/VarHandle" ∧ (parseMethodDescriptor yX7_readsRain.desc).map (fun d => d.parameters.length) = some 0 := ⟨by decide, by decide, by decide +kernel⟩
theorem t_X7_rustOf : yX7_rustOf.cls ≠ "java/lang/invoke/MethodHandle" ∧ yX7_rustOf.cls ≠ "java/lang/invoke/VarHandle" ∧ (parseMethodDescriptor yX7_rustOf.desc).map (fun d => d.parameters.length) = some 2 := ⟨by decide, by decide, by decide +kernel⟩
theorem t_X7_sortOf : yX7_sortOf.cls ≠ "java/lang/invoke/MethodHandle" ∧ yX7_sortOf.cls ≠ "java/lang/invoke/VarHandle" ∧ (parseMethodDescriptor yX7_sortOf.desc).map (fun d => d.parameters.length) = some 1 := ⟨by decide, by decide, by decide +kernel⟩
theorem t_X7_tells : yX7_tells.cls ≠ "java/lang/invoke/MethodHandle" ∧ yX7_tells.cls ≠ "java/lang/invoke/VarHandle" ∧ (parseMethodDescriptor yX7_tells.desc).map (fun d => d.parameters.length) = some 0 := ⟨by decide, by decide, by decide +kernel⟩
theorem t_X7_token : yX7_token.cls ≠ "java/lang/invoke/MethodHandle" ∧ yX7_token.cls ≠ "java/lang/invoke/VarHandle" ∧ (parseMethodDescriptor yX7_token.desc).map (fun d => d.parameters.length) = some 0 := ⟨by decide, by decide, by decide +kernel⟩
theorem t_X7_verb : yX7_verb.cls ≠ "java/lang/invoke/MethodHandle" ∧ yX7_verb.cls ≠ "java/lang/invoke/VarHandle" ∧ (parseMethodDescriptor yX7_verb.desc).map (fun d => d.parameters.length) = some 0 := ⟨by decide, by decide, by decide +kernel⟩
theorem t_fill : yJ7_fill_53178.cls ≠ "java/lang/invoke/MethodHandle" ∧ yJ7_fill_53178.cls ≠ "java/lang/invoke/VarHandle" ∧ (parseMethodDescriptor yJ7_fill_53178.desc).map (fun d => d.parameters.length) = some 2 := ⟨by decide, by decide, by decide +kernel⟩
theorem t_J0_length_8abf5 : yJ0_length_8abf5.cls ≠ "java/lang/invoke/MethodHandle" ∧ yJ0_length_8abf5.cls ≠ "java/lang/invoke/VarHandle" ∧ (parseMethodDescriptor yJ0_length_8abf5.desc).map (fun d => d.parameters.length) = some 0 := ⟨by decide, by decide, by decide +kernel⟩
theorem t_J0_charAt_5068e : yJ0_charAt_5068e.cls ≠ "java/lang/invoke/MethodHandle" ∧ yJ0_charAt_5068e.cls ≠ "java/lang/invoke/VarHandle" ∧ (parseMethodDescriptor yJ0_charAt_5068e.desc).map (fun d => d.parameters.length) = some 1 := ⟨by decide, by decide, by decide +kernel⟩
theorem t_J0_coder : yJ0_coder_7d493.cls ≠ "java/lang/invoke/MethodHandle" ∧ yJ0_coder_7d493.cls ≠ "java/lang/invoke/VarHandle" ∧ (parseMethodDescriptor yJ0_coder_7d493.desc).map (fun d => d.parameters.length) = some 0 := ⟨by decide, by decide, by decide +kernel⟩
theorem t_J0_isLatin1 : yJ0_isLatin1_aae02.cls ≠ "java/lang/invoke/MethodHandle" ∧ yJ0_isLatin1_aae02.cls ≠ "java/lang/invoke/VarHandle" ∧ (parseMethodDescriptor yJ0_isLatin1_aae02.desc).map (fun d => d.parameters.length) = some 0 := ⟨by decide, by decide, by decide +kernel⟩
theorem t_J1_charAt : yJ1_charAt_3b067.cls ≠ "java/lang/invoke/MethodHandle" ∧ yJ1_charAt_3b067.cls ≠ "java/lang/invoke/VarHandle" ∧ (parseMethodDescriptor yJ1_charAt_3b067.desc).map (fun d => d.parameters.length) = some 2 := ⟨by decide, by decide, by decide +kernel⟩
theorem t_J0_checkIndex : yJ0_checkIndex_df160.cls ≠ "java/lang/invoke/MethodHandle" ∧ yJ0_checkIndex_df160.cls ≠ "java/lang/invoke/VarHandle" ∧ (parseMethodDescriptor yJ0_checkIndex_df160.desc).map (fun d => d.parameters.length) = some 2 := ⟨by decide, by decide, by decide +kernel⟩
theorem t_J3_checkIndex : yJ3_checkIndex_8e157.cls ≠ "java/lang/invoke/MethodHandle" ∧ yJ3_checkIndex_8e157.cls ≠ "java/lang/invoke/VarHandle" ∧ (parseMethodDescriptor yJ3_checkIndex_8e157.desc).map (fun d => d.parameters.length) = some 3 := ⟨by decide, by decide, by decide +kernel⟩
/-- Arrays.fill over a cell of ints -/
theorem fill_loop {Z : Zt} {e : GE} {k n : Nat} {v : Int32} {post : Option Value → St → Prop} (hn : n < 2 ^ 31) (ho : ∀ S : St, (WW e S)[k]? = some (e.2.2.1 k, .inl (e.2.1 0, n, .inl (S.1 k)))) (hw : ∀ (S : St) f, (WW e S).set k (e.2.2.1 k, .inl (e.2.1 0, n, .inl f)) = WW e (setA S k f)) (hR : RT Z e none post) (S0 : St) (hp : post none (setA S0 k (fun _ => v))) :
    ∀ (j i : Nat) (f : Nat → Int32), i + j = n → (∀ q, q < i → f q = v) → MW Z e cJ7_fill_53178 4 RJ7 1 5 [(0, .ref (e.2.2.1 k)), (1, .int v), (2, .int (nI i)), (3, .int (nI n))] [] (setA S0 k f) := by
  have hss : ∀ f g : Nat → Int32, setA (setA S0 k f) k g = setA S0 k g := by
    intro f g
    simp only [setA, Prod.mk.injEq, and_true]
    funext c
    by_cases hc : c = k <;> simp [hc]
  have hsf : ∀ f : Nat → Int32, (setA S0 k f).1 k = f := by
    intro f
    simp [setA]
  intro j
  induction j with
  | zero =>
    intro i f hij hf
    obtain rfl : i = n := by omega
    refine m_iload_n dJ7_fill_53178_5 2 rfl rfl ?_
    refine m_iload_n dJ7_fill_53178_6 3 rfl rfl ?_
    refine m_icmp_ge (tgt := 20) dJ7_fill_53178_7 (by decide) (fun _ => ?_) (fun z => absurd (nI_le (Nat.le_refl i) hn) z)
    refine m_cong (S2 := setA S0 k (fun _ => v)) (f2 := fun _ => v) k 0 (ho _) (by rw [hw, hss]) (fun q hq => by rw [hsf]; exact hf q hq) ?_
    exact m_vret hR hp dJ7_fill_53178_20
  | succ j ih =>
    intro i f hij hf
    refine m_iload_n dJ7_fill_53178_5 2 rfl rfl ?_
    refine m_iload_n dJ7_fill_53178_6 3 rfl rfl ?_
    refine m_icmp_ge (tgt := 20) dJ7_fill_53178_7 (by decide) (fun z => absurd z (nI_ge (by omega) hn)) (fun _ => ?_)
    refine m_aload_n dJ7_fill_53178_10 0 rfl rfl ?_
    refine m_iload_n dJ7_fill_53178_11 2 rfl rfl ?_
    refine m_iload_n dJ7_fill_53178_12 1 rfl rfl ?_
    refine m_iast k (ho _) (fun f2 => hw _ f2) (vp_in_nI (by omega) hn) dJ7_fill_53178_13 (fun S1 e1 => ?_)
    rw [hss, hsf, nI_clamp (by omega)] at e1
    subst e1
    refine m_iinc (v := nI (i + 1)) (lv2 := [(2, .int (nI (i + 1))), (0, .ref (e.2.2.1 k)), (1, .int v), (3, .int (nI n))]) dJ7_fill_53178_14 2 rfl (nI_1 i) (by decide) rfl ?_
    refine m_goto (tgt := 5) dJ7_fill_53178_17 (by decide) ?_
    refine m_loc [1, 2, 0, 3] rfl ?_
    exact ih (i + 1) (upd f i v) (by omega) (fun q hq => by
      by_cases hqi : q = i
      · subst hqi; exact pk_us
      · rw [pk_un hqi]; exact hf q (by omega))
theorem c_fill {e : GE} {k n : Nat} {v : Int32} {S0 : St} (hn : n < 2 ^ 31) (ho : ∀ S : St, (WW e S)[k]? = some (e.2.2.1 k, .inl (e.2.1 0, n, .inl (S.1 k)))) (hw : ∀ (S : St) f, (WW e S).set k (e.2.2.1 k, .inl (e.2.1 0, n, .inl f)) = WW e (setA S k f)) : CT e yJ7_fill_53178 cJ7_fill_53178 4 none 1 [.ref (e.2.2.1 k), .int v] S0 (pV (fun S1 => S1 = setA S0 k (fun _ => v))) := by
  refine CT.of (by decide) (Nat.le_of_ble_eq_true rfl) (fun Z hR => ?_)
  show MW Z e cJ7_fill_53178 4 RJ7 1 0 [(0, .ref (e.2.2.1 k)), (1, .int v)] [] S0
  refine m_iconst (v := 0) dJ7_fill_53178_0 (by decide) ?_
  refine m_istore_n (lv2 := [(2, .int 0), (0, .ref (e.2.2.1 k)), (1, .int v)]) dJ7_fill_53178_1 rfl (by decide) rfl ?_
  refine m_aload_n dJ7_fill_53178_2 1 rfl rfl ?_
  refine m_alen (v := nI n) (t0 := 0) (ty := .int) k (ho S0) rfl rfl dJ7_fill_53178_3 ?_
  refine m_istore_n (lv2 := [(3, .int (nI n)), (2, .int 0), (0, .ref (e.2.2.1 k)), (1, .int v)]) dJ7_fill_53178_4 rfl (by decide) rfl ?_
  refine m_loc [2, 3, 1, 0] rfl ?_
  have e1 : setA S0 k (S0.1 k) = S0 := by
    simp only [setA]
    refine Prod.ext ?_ rfl
    funext c
    by_cases hc : c = k <;> simp [hc]
  have h1 := fill_loop hn ho hw hR S0 ⟨rfl, rfl⟩ n 0 (S0.1 k) (by omega) (fun q hq => absurd hq (Nat.not_lt_zero q))
  rw [e1] at h1
  exact h1
theorem c_fill_7 {e : GE} {v : Int32} {S0 : St} : CT e yJ7_fill_53178 cJ7_fill_53178 4 none 1 [.ref (e.2.2.1 7), .int v] S0 (pV (fun S1 => S1 = setA S0 7 (fun _ => v))) := c_fill (n := 10) (by decide) (a_7 e) (aw_7 e)
theorem c_fill_23 {e : GE} {v : Int32} {S0 : St} : CT e yJ7_fill_53178 cJ7_fill_53178 4 none 1 [.ref (e.2.2.1 23), .int v] S0 (pV (fun S1 => S1 = setA S0 23 (fun _ => v))) := c_fill (n := 6) (by decide) (a_23 e) (aw_23 e)
theorem c_fill_44 {e : GE} {v : Int32} {S0 : St} : CT e yJ7_fill_53178 cJ7_fill_53178 4 none 1 [.ref (e.2.2.1 44), .int v] S0 (pV (fun S1 => S1 = setA S0 44 (fun _ => v))) := c_fill (n := 8) (by decide) (a_44 e) (aw_44 e)
theorem c_fill_45 {e : GE} {v : Int32} {S0 : St} : CT e yJ7_fill_53178 cJ7_fill_53178 4 none 1 [.ref (e.2.2.1 45), .int v] S0 (pV (fun S1 => S1 = setA S0 45 (fun _ => v))) := c_fill (n := 271) (by decide) (a_45 e) (aw_45 e)
/-- String.coder, length, isLatin1, charAt over the class's String constants -/
theorem c_J0_coder {e : GE} {S0 : St} {i : Nat} (hi : i < 4) : CT e yJ0_coder_7d493 cJ0_coder_7d493 1 (some .byte) 1 [.ref (e.2.2.2.1 i)] S0 (pR S0 (fun r => r = 0)) := by
  refine CT.of (by decide) (Nat.le_of_ble_eq_true rfl) (fun Z hR => ?_)
  show MW Z e cJ0_coder_7d493 1 RJ0 1 0 [(0, .ref (e.2.2.2.1 i))] [] S0
  refine m_getCS q11_15 dJ0_coder_7d493_0 ?_
  refine m_if_eq (tgt := 13) dJ0_coder_7d493_3 (by decide) (fun z => absurd z (by decide)) (fun _ => ?_)
  refine m_aload_n dJ0_coder_7d493_6 0 rfl rfl ?_
  refine m_strcod hi q11_16 dJ0_coder_7d493_7 ?_
  refine m_goto (tgt := 14) dJ0_coder_7d493_10 (by decide) ?_
  exact m_zret hR rfl ⟨_, rfl, rfl, rfl⟩ dJ0_coder_7d493_14
theorem shr0 {n : Nat} (h : n < 2 ^ 31) : nI n >>> ((0 : Int32) &&& 31) = nI n := sc_shr0 h
theorem lenS_lt : ∀ i, i < 4 → lenS.getD i 0 < 2 ^ 31 := by decide
def w_J0_length_8abf5 (i : Nat) (Q : Int32 → Prop) : Prop := Q (nI (lenS.getD i 0))
theorem c_J0_length_8abf5 {e : GE} {S0 : St} {i : Nat} {Q : Int32 → Prop} (hi : i < 4) (h : w_J0_length_8abf5 i Q) : CT e yJ0_length_8abf5 cJ0_length_8abf5 1 (some .int) 2 [.ref (e.2.2.2.1 i)] S0 (pR S0 Q) := by
  refine CT.of (by decide) (Nat.le_of_ble_eq_true rfl) (fun Z hR => ?_)
  show MW Z e cJ0_length_8abf5 1 RJ0 2 0 [(0, .ref (e.2.2.2.1 i))] [] S0
  refine m_aload_n dJ0_length_8abf5_0 0 rfl rfl ?_
  refine m_strval hi q11_10 dJ0_length_8abf5_1 ?_
  refine m_strlen hi dJ0_length_8abf5_4 ?_
  refine m_aload_n dJ0_length_8abf5_5 0 rfl rfl ?_
  refine m_callVS i hi [] (c_J0_coder hi) rfl q11_11 q11_12 q11_13 q11_8 q11_14 t_J0_coder rfl (by omega) (by decide) (Nat.le_of_ble_eq_true rfl) rfl dJ0_length_8abf5_6 (kR (P := MW Z e cJ0_length_8abf5 1 RJ0 2 9 [(0, .ref (e.2.2.2.1 i))]) (fun r hr => ?_))
  subst hr
  refine m_ishr dJ0_length_8abf5_9 ?_
  rw [shr0 (lenS_lt i hi)]
  exact m_iret hR ⟨_, rfl, rfl, h⟩ dJ0_length_8abf5_10
theorem c_J0_isLatin1 {e : GE} {S0 : St} {i : Nat} (hi : i < 4) : CT e yJ0_isLatin1_aae02 cJ0_isLatin1_aae02 1 (some .boolean) 1 [.ref (e.2.2.2.1 i)] S0 (pR S0 (fun r => r = 1)) := by
  refine CT.of (by decide) (Nat.le_of_ble_eq_true rfl) (fun Z hR => ?_)
  show MW Z e cJ0_isLatin1_aae02 1 RJ0 1 0 [(0, .ref (e.2.2.2.1 i))] [] S0
  refine m_getCS q11_15 dJ0_isLatin1_aae02_0 ?_
  refine m_if_eq (tgt := 17) dJ0_isLatin1_aae02_3 (by decide) (fun z => absurd z (by decide)) (fun _ => ?_)
  refine m_aload_n dJ0_isLatin1_aae02_6 0 rfl rfl ?_
  refine m_strcod hi q11_16 dJ0_isLatin1_aae02_7 ?_
  refine m_if_ne (tgt := 17) dJ0_isLatin1_aae02_10 (by decide) (fun z => absurd rfl z) (fun _ => ?_)
  refine m_iconst (v := 1) dJ0_isLatin1_aae02_13 (by decide) ?_
  refine m_goto (tgt := 18) dJ0_isLatin1_aae02_14 (by decide) ?_
  exact m_zret hR rfl ⟨_, rfl, rfl, rfl⟩ dJ0_isLatin1_aae02_18
theorem c_J3_checkIndex {e : GE} {S0 : St} {x y : Int32} {v : Value} (hv : v = .null ∨ ∃ t : Nat, v = .ref t) (h0 : ¬ x < 0) (h1 : x < y) : CT e yJ3_checkIndex_8e157 cJ3_checkIndex_8e157 3 (some .int) 1 [.int x, .int y, v] S0 (pR S0 (fun _ => True)) := by
  have hb : ∀ Z : Zt, ∀ lv : List (Nat × Value), lv[0]? = some (0, .int x) → lv[1]? = some (1, .int y) → RT Z e (some .int) (pR S0 (fun _ => True)) → MW Z e cJ3_checkIndex_8e157 3 RJ3 1 0 lv [] S0 := by
    intro Z lv q0 q1 hR
    refine m_iload_n dJ3_checkIndex_8e157_0 0 rfl q0 ?_
    refine m_if_lt (tgt := 9) dJ3_checkIndex_8e157_1 (by decide) (fun z => absurd z h0) (fun _ => ?_)
    refine m_iload_n dJ3_checkIndex_8e157_4 0 rfl q0 ?_
    refine m_iload_n dJ3_checkIndex_8e157_5 1 rfl q1 ?_
    refine m_icmp_lt (tgt := 16) dJ3_checkIndex_8e157_6 (by decide) (fun _ => ?_) (fun z => absurd h1 z)
    refine m_iload_n dJ3_checkIndex_8e157_16 0 rfl q0 ?_
    exact m_iret hR ⟨_, rfl, rfl, trivial⟩ dJ3_checkIndex_8e157_17
  rcases hv with rfl | ⟨t, rfl⟩
  · exact CT.of (by decide) (Nat.le_of_ble_eq_true rfl) (fun Z hR => hb Z [(0, .int x), (1, .int y), (2, .null)] rfl rfl hR)
  · exact CT.of (by decide) (Nat.le_of_ble_eq_true rfl) (fun Z hR => hb Z [(0, .int x), (1, .int y), (2, .ref t)] rfl rfl hR)
theorem c_J0_checkIndex {e : GE} {S0 : St} {x y : Int32} (h0 : ¬ x < 0) (h1 : x < y) : CT e yJ0_checkIndex_df160 cJ0_checkIndex_df160 2 none 2 [.int x, .int y] S0 (pN S0 True) := by
  refine CT.of (by decide) (Nat.le_of_ble_eq_true rfl) (fun Z hR => ?_)
  show MW Z e cJ0_checkIndex_df160 2 RJ0 2 0 [(0, .int x), (1, .int y)] [] S0
  refine m_iload_n dJ0_checkIndex_df160_0 0 rfl rfl ?_
  refine m_iload_n dJ0_checkIndex_df160_1 1 rfl rfl ?_
  refine m_getSF q12_8 dJ0_checkIndex_df160_2 (fun v hv => ?_)
  refine m_callS [.int x, .int y, v] (c_J3_checkIndex hv h0 h1) q12_9 q12_10 q12_11 q12_12 t_J3_checkIndex rfl (by omega) (by decide) (Nat.le_of_ble_eq_true rfl) rfl dJ0_checkIndex_df160_5 (kR (P := MW Z e cJ0_checkIndex_df160 2 RJ0 2 8 [(0, .int x), (1, .int y)]) (fun r _ => ?_))
  refine m_pop dJ0_checkIndex_df160_8 rfl ?_
  exact m_vret hR ⟨rfl, rfl, trivial⟩ dJ0_checkIndex_df160_9
def chS (i : Nat) (x : Int32) : Int32 := (((bytS.getD i []).getD x.toNatClampNeg 0 &&& 255).toUInt32 % 65536).toInt32
theorem chS_ok (i : Nat) (x : Int32) : narrow .char (.int (chS i x)) = .int (chS i x) := pk_nc _
theorem c_J1_charAt {e : GE} {S0 : St} {i : Nat} {x : Int32} {Q : Int32 → Prop} (hi : i < 4) (hin : vp_in x (lenS.getD i 0)) (h : Q (chS i x)) : CT e yJ1_charAt_3b067 cJ1_charAt_3b067 2 (some .char) 3 [.ref (e.2.2.2.2 i), .int x] S0 (pR S0 Q) := by
  obtain ⟨j, hj, ex⟩ := vp_in_of hin (lenS_lt i hi)
  have h0 : ¬ x < 0 := by rw [ex]; exact nI_pos (by have := lenS_lt i hi; omega)
  have h1 : x < nI (lenS.getD i 0) := by rw [ex]; exact nI_lt hj (lenS_lt i hi)
  refine CT.of (by decide) (Nat.le_of_ble_eq_true rfl) (fun Z hR => ?_)
  show MW Z e cJ1_charAt_3b067 2 RJ1 3 0 [(0, .ref (e.2.2.2.2 i)), (1, .int x)] [] S0
  refine m_iload_n dJ1_charAt_3b067_0 1 rfl rfl ?_
  refine m_aload_n dJ1_charAt_3b067_1 0 rfl rfl ?_
  refine m_strlen hi dJ1_charAt_3b067_2 ?_
  refine m_callS [.int x, .int (nI (lenS.getD i 0))] (c_J0_checkIndex h0 h1) q12_5 q12_6 q11_8 q12_7 t_J0_checkIndex rfl (by omega) (by decide) (Nat.le_of_ble_eq_true rfl) rfl dJ1_charAt_3b067_3 (kN (P := MW Z e cJ1_charAt_3b067 2 RJ1 3 6 [(0, .ref (e.2.2.2.2 i)), (1, .int x)]) (fun _ => ?_))
  refine m_aload_n dJ1_charAt_3b067_6 0 rfl rfl ?_
  refine m_iload_n dJ1_charAt_3b067_7 1 rfl rfl ?_
  refine m_strld hi hin dJ1_charAt_3b067_8 ?_
  refine m_sipush (v := 255) dJ1_charAt_3b067_9 (by decide) ?_
  refine m_iand dJ1_charAt_3b067_12 ?_
  refine m_i2c dJ1_charAt_3b067_13 ?_
  exact m_zret hR (chS_ok i x) ⟨_, rfl, rfl, h⟩ dJ1_charAt_3b067_14
def w_J0_charAt_5068e (i : Nat) (x : Int32) (Q : Int32 → Prop) : Prop := vp_in x (lenS.getD i 0) ∧ Q (chS i x)
theorem c_J0_charAt_5068e {e : GE} {S0 : St} {i : Nat} {x : Int32} {Q : Int32 → Prop} (hi : i < 4) (h : w_J0_charAt_5068e i x Q) : CT e yJ0_charAt_5068e cJ0_charAt_5068e 2 (some .char) 4 [.ref (e.2.2.2.1 i), .int x] S0 (pR S0 Q) := by
  refine CT.of (by decide) (Nat.le_of_ble_eq_true rfl) (fun Z hR => ?_)
  show MW Z e cJ0_charAt_5068e 2 RJ0 4 0 [(0, .ref (e.2.2.2.1 i)), (1, .int x)] [] S0
  refine m_aload_n dJ0_charAt_5068e_0 0 rfl rfl ?_
  refine m_callVS i hi [] (c_J0_isLatin1 hi) rfl q11_21 q11_22 q11_23 q11_8 q12_0 t_J0_isLatin1 rfl (by omega) (by decide) (Nat.le_of_ble_eq_true rfl) rfl dJ0_charAt_5068e_1 (kR (P := MW Z e cJ0_charAt_5068e 2 RJ0 4 4 [(0, .ref (e.2.2.2.1 i)), (1, .int x)]) (fun r hr => ?_))
  subst hr
  refine m_if_eq (tgt := 16) dJ0_charAt_5068e_4 (by decide) (fun z => absurd z (by decide)) (fun _ => ?_)
  refine m_aload_n dJ0_charAt_5068e_7 0 rfl rfl ?_
  refine m_strval hi q11_10 dJ0_charAt_5068e_8 ?_
  refine m_iload_n dJ0_charAt_5068e_11 1 rfl rfl ?_
  refine m_callS [.ref (e.2.2.2.2 i), .int x] (c_J1_charAt (Q := fun r => r = chS i x) hi h.1 rfl) q12_1 q12_2 q12_3 q12_4 t_J1_charAt rfl (by omega) (by decide) (Nat.le_of_ble_eq_true rfl) rfl dJ0_charAt_5068e_12 (kR (P := MW Z e cJ0_charAt_5068e 2 RJ0 4 15 [(0, .ref (e.2.2.2.1 i)), (1, .int x)]) (fun r hr => ?_))
  subst hr
  exact m_zret hR (chS_ok i x) ⟨_, rfl, rfl, h.2⟩ dJ0_charAt_5068e_15
