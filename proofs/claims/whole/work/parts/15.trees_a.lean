set_option maxRecDepth 20000 in
theorem t0_0 {Q : Post} (I : Mem) (h : R 0 2 [(0, .inr (some 20)), (1, .inr (some 9)), (2, .inl 0)] [] I Q) : R 0 0 [(0, .inr (some 20)), (1, .inr (some 9))] [] I Q := by
  exact wseg_sound pr_ok (cut := [(2, [0, 1, 2]), (36, [0, 1, 2]), (92, [0, 1, 2, 3]), (116, [0, 1, 3])]) ok_0 400 true 0 _ _ _ h
set_option maxRecDepth 20000 in
theorem t0_2 {Q : Post} (I : Mem) (x2 : Int) (h : (6 ≤ x2 → (R 0 36 [(0, .inr (some 20)), (1, .inr (some 9)), (2, .inl 0)] [] I Q)) ∧
 (¬ (6 ≤ x2) → (let J1 := wr I 24 x2 (-9); let J2 := wr J1 25 x2 (-11); R 0 2 [(0, .inr (some 20)), (1, .inr (some 9)), (2, .inl (wrap (x2 + 1)))] [] J2 Q))) : R 0 2 [(0, .inr (some 20)), (1, .inr (some 9)), (2, .inl x2)] [] I Q := by
  exact wseg_sound pr_ok (cut := [(2, [0, 1, 2]), (36, [0, 1, 2]), (92, [0, 1, 2, 3]), (116, [0, 1, 3])]) ok_0 400 true 2 _ _ _ h
set_option maxRecDepth 20000 in
theorem t0_36 {Q : Post} (I : Mem) (x2 : Int) (h : ((I 9 0) ≤ x2 → (R 0 92 [(0, .inr (some 20)), (1, .inr (some 9)), (2, .inl 1), (3, .inl 0)] [] I Q)) ∧
 (¬ ((I 9 0) ≤ x2) → (R 1 0 [(0, .inr (some 20)), (1, .inr (some 9)), (2, .inl x2)] [] I (fun r1 I1 => r1 = none ∧ ((¬ (rd I1 10 x2) = 64 → (R 0 36 [(0, .inr (some 20)), (1, .inr (some 9)), (2, .inl (wrap (x2 + 1)))] [] I1 Q)) ∧
  (¬ (¬ (rd I1 10 x2) = 64) → (let J2 := wr I1 24 (wrap ((rd I1 11 x2) - 65)) x2; R 0 36 [(0, .inr (some 20)), (1, .inr (some 9)), (2, .inl (wrap (x2 + 1)))] [] J2 Q))))))) : R 0 36 [(0, .inr (some 20)), (1, .inr (some 9)), (2, .inl x2)] [] I Q := by
  exact wseg_sound pr_ok (cut := [(2, [0, 1, 2]), (36, [0, 1, 2]), (92, [0, 1, 2, 3]), (116, [0, 1, 3])]) ok_0 400 true 36 _ _ _ h
set_option maxRecDepth 20000 in
theorem t0_92 {Q : Post} (I : Mem) (x2 : Int) (x3 : Int) (h : (18 ≤ x3 → (R 0 116 [(0, .inr (some 20)), (1, .inr (some 9)), (3, .inl 0)] [] I Q)) ∧
 (¬ (18 ≤ x3) → ((x2 = 0 → (R 0 116 [(0, .inr (some 20)), (1, .inr (some 9)), (3, .inl 0)] [] I Q)) ∧
  (¬ (x2 = 0) → (R 2 0 [(0, .inr (some 20)), (1, .inr (some 9))] [] I (fun r1 I1 => ∃ v1, r1 = some (.inl v1) ∧ (R 0 92 [(0, .inr (some 20)), (1, .inr (some 9)), (2, .inl v1), (3, .inl (wrap (x3 + 1)))] [] I1 Q))))))) : R 0 92 [(0, .inr (some 20)), (1, .inr (some 9)), (2, .inl x2), (3, .inl x3)] [] I Q := by
  exact wseg_sound pr_ok (cut := [(2, [0, 1, 2]), (36, [0, 1, 2]), (92, [0, 1, 2, 3]), (116, [0, 1, 3])]) ok_0 400 true 92 _ _ _ h
set_option maxRecDepth 20000 in
theorem t0_116 {Q : Post} (I : Mem) (x3 : Int) (h : ((I 9 0) ≤ x3 → (Q none I)) ∧
 (¬ ((I 9 0) ≤ x3) → (((b2i (jmp (rd I 25 (wrap ((rd I 11 x3) - 65))))) = 0 → (((b2i (decide (rd I 21 x3 = 1))) = 0 → (let J1 := wr I 23 x3 3; R 0 116 [(0, .inr (some 20)), (1, .inr (some 9)), (3, .inl (wrap (x3 + 1)))] [] J1 Q)) ∧
   (¬ ((b2i (decide (rd I 21 x3 = 1))) = 0) → (let J2 := wr I 23 x3 1; R 0 116 [(0, .inr (some 20)), (1, .inr (some 9)), (3, .inl (wrap (x3 + 1)))] [] J2 Q)))) ∧
  (¬ ((b2i (jmp (rd I 25 (wrap ((rd I 11 x3) - 65))))) = 0) → (((b2i (decide (rd I 21 x3 = 1))) = 0 → (let J3 := wr I 23 x3 2; R 0 116 [(0, .inr (some 20)), (1, .inr (some 9)), (3, .inl (wrap (x3 + 1)))] [] J3 Q)) ∧
   (¬ ((b2i (decide (rd I 21 x3 = 1))) = 0) → (let J4 := wr I 23 x3 1; R 0 116 [(0, .inr (some 20)), (1, .inr (some 9)), (3, .inl (wrap (x3 + 1)))] [] J4 Q))))))) : R 0 116 [(0, .inr (some 20)), (1, .inr (some 9)), (3, .inl x3)] [] I Q := by
  exact wseg_sound pr_ok (cut := [(2, [0, 1, 2]), (36, [0, 1, 2]), (92, [0, 1, 2, 3]), (116, [0, 1, 3])]) ok_0 400 true 116 _ _ _ h
set_option maxRecDepth 20000 in
theorem t1_0 {Q : Post} (I : Mem) (x2 : Int) (h : (¬ x2 = 0 → ((¬ (rd I 17 x2) = 0 → (R 1 58 [(0, .inr (some 20)), (1, .inr (some 9)), (2, .inl x2), (3, .inl (rd I 16 x2)), (4, .inl (rd I 10 (rd I 16 x2)))] [.inl 0] I Q)) ∧
  (¬ (¬ (rd I 17 x2) = 0) → (R 1 58 [(0, .inr (some 20)), (1, .inr (some 9)), (2, .inl x2), (3, .inl (rd I 16 x2)), (4, .inl (rd I 10 (rd I 16 x2)))] [.inl 1] I Q)))) ∧
 (¬ (¬ x2 = 0) → (let J1 := wr I 21 x2 1; let J2 := wr J1 22 x2 0; Q none J2))) : R 1 0 [(0, .inr (some 20)), (1, .inr (some 9)), (2, .inl x2)] [] I Q := by
  exact wseg_sound pr_ok (cut := [(58, [0, 1, 2, 3, 4]), (129, [0, 2, 3]), (153, [0, 2, 3])]) ok_1 400 true 0 _ _ _ h
set_option maxRecDepth 20000 in
theorem t1_58 {Q : Post} (I : Mem) (x2 : Int) (x3 : Int) (x4 : Int) (y0 : Int) (h : (¬ x4 = 64 → ((x4 = 63 → ((¬ y0 = 0 → (R 1 129 [(0, .inr (some 20)), (2, .inl x2), (3, .inl x3)] [.inl 0] I Q)) ∧
   (¬ (¬ y0 = 0) → (R 1 129 [(0, .inr (some 20)), (2, .inl x2), (3, .inl x3)] [.inl 1] I Q)))) ∧
  (¬ (x4 = 63) → ((x4 = 58 → ((¬ y0 = 0 → (R 1 129 [(0, .inr (some 20)), (2, .inl x2), (3, .inl x3)] [.inl 0] I Q)) ∧
    (¬ (¬ y0 = 0) → (R 1 129 [(0, .inr (some 20)), (2, .inl x2), (3, .inl x3)] [.inl 1] I Q)))) ∧
   (¬ (x4 = 58) → ((¬ x4 = 64 → (R 1 129 [(0, .inr (some 20)), (2, .inl x2), (3, .inl x3)] [.inl 0] I Q)) ∧
    (¬ (¬ x4 = 64) → ((¬ y0 = 0 → (R 1 129 [(0, .inr (some 20)), (2, .inl x2), (3, .inl x3)] [.inl 0] I Q)) ∧
     (¬ (¬ y0 = 0) → (R 1 129 [(0, .inr (some 20)), (2, .inl x2), (3, .inl x3)] [.inl 1] I Q)))))))))) ∧
 (¬ (¬ x4 = 64) → ((y0 = 0 → ((x4 = 63 → ((¬ y0 = 0 → (R 1 129 [(0, .inr (some 20)), (2, .inl x2), (3, .inl x3)] [.inl 0] I Q)) ∧
    (¬ (¬ y0 = 0) → (R 1 129 [(0, .inr (some 20)), (2, .inl x2), (3, .inl x3)] [.inl 1] I Q)))) ∧
   (¬ (x4 = 63) → ((x4 = 58 → ((¬ y0 = 0 → (R 1 129 [(0, .inr (some 20)), (2, .inl x2), (3, .inl x3)] [.inl 0] I Q)) ∧
     (¬ (¬ y0 = 0) → (R 1 129 [(0, .inr (some 20)), (2, .inl x2), (3, .inl x3)] [.inl 1] I Q)))) ∧
    (¬ (x4 = 58) → ((¬ x4 = 64 → (R 1 129 [(0, .inr (some 20)), (2, .inl x2), (3, .inl x3)] [.inl 0] I Q)) ∧
     (¬ (¬ x4 = 64) → ((¬ y0 = 0 → (R 1 129 [(0, .inr (some 20)), (2, .inl x2), (3, .inl x3)] [.inl 0] I Q)) ∧
      (¬ (¬ y0 = 0) → (R 1 129 [(0, .inr (some 20)), (2, .inl x2), (3, .inl x3)] [.inl 1] I Q)))))))))) ∧
  (¬ (y0 = 0) → (let J1 := wr I 21 x2 1; let J2 := wr J1 22 x2 (rd J1 11 x3); Q none J2))))) : R 1 58 [(0, .inr (some 20)), (1, .inr (some 9)), (2, .inl x2), (3, .inl x3), (4, .inl x4)] [.inl y0] I Q := by
  exact wseg_sound pr_ok (cut := [(58, [0, 1, 2, 3, 4]), (129, [0, 2, 3]), (153, [0, 2, 3])]) ok_1 400 true 58 _ _ _ h
set_option maxRecDepth 20000 in
theorem t1_129 {Q : Post} (I : Mem) (x2 : Int) (x3 : Int) (y0 : Int) (h : (y0 = 0 → (R 1 153 [(0, .inr (some 20)), (2, .inl x2), (3, .inl x3)] [.inl 0, .inl x2, .inr (some 21)] I Q)) ∧
 (¬ (y0 = 0) → (R 1 153 [(0, .inr (some 20)), (2, .inl x2), (3, .inl x3)] [.inl (rd I 21 x3), .inl x2, .inr (some 21)] I Q))) : R 1 129 [(0, .inr (some 20)), (2, .inl x2), (3, .inl x3)] [.inl y0] I Q := by
  exact wseg_sound pr_ok (cut := [(58, [0, 1, 2, 3, 4]), (129, [0, 2, 3]), (153, [0, 2, 3])]) ok_1 400 true 129 _ _ _ h
set_option maxRecDepth 20000 in
theorem t1_153 {Q : Post} (I : Mem) (x2 : Int) (x3 : Int) (y0 : Int) (y1 : Int) (h : let J1 := wr I 21 y1 y0; let J2 := wr J1 22 x2 (rd J1 22 x3); Q none J2) : R 1 153 [(0, .inr (some 20)), (2, .inl x2), (3, .inl x3)] [.inl y0, .inl y1, .inr (some 21)] I Q := by
  exact wseg_sound pr_ok (cut := [(58, [0, 1, 2, 3, 4]), (129, [0, 2, 3]), (153, [0, 2, 3])]) ok_1 400 true 153 _ _ _ h
set_option maxRecDepth 20000 in
theorem t2_0 {Q : Post} (I : Mem) (h : R 2 4 [(0, .inr (some 20)), (1, .inr (some 9)), (2, .inl 0), (3, .inl 0)] [] I Q) : R 2 0 [(0, .inr (some 20)), (1, .inr (some 9))] [] I Q := by
  exact wseg_sound pr_ok (cut := [(4, [0, 1, 2, 3])]) ok_2 400 true 0 _ _ _ h
set_option maxRecDepth 20000 in
theorem t2_4 {Q : Post} (I : Mem) (x2 : Int) (x3 : Int) (h : ((I 9 0) ≤ x3 → (RetB x2 I Q)) ∧
 (¬ ((I 9 0) ≤ x3) → ((¬ (rd I 10 x3) = 33 → (R 2 4 [(0, .inr (some 20)), (1, .inr (some 9)), (2, .inl x2), (3, .inl (wrap (x3 + 1)))] [] I Q)) ∧
  (¬ (¬ (rd I 10 x3) = 33) → (R 3 0 [(0, .inr (some 20)), (1, .inl x3), (2, .inl (wrap ((rd I 11 x3) - 65)))] [] I (fun r1 I1 => ∃ v1, r1 = some (.inl v1) ∧ ((v1 = 0 → (R 2 4 [(0, .inr (some 20)), (1, .inr (some 9)), (2, .inl x2), (3, .inl (wrap (x3 + 1)))] [] I1 Q)) ∧
   (¬ (v1 = 0) → (R 2 4 [(0, .inr (some 20)), (1, .inr (some 9)), (2, .inl 1), (3, .inl (wrap (x3 + 1)))] [] I1 Q))))))))) : R 2 4 [(0, .inr (some 20)), (1, .inr (some 9)), (2, .inl x2), (3, .inl x3)] [] I Q := by
  exact wseg_sound pr_ok (cut := [(4, [0, 1, 2, 3])]) ok_2 400 true 4 _ _ _ h
set_option maxRecDepth 20000 in
theorem t3_0 {Q : Post} (I : Mem) (x1 : Int) (x2 : Int) (h : R 4 0 [(0, .inr (some 20)), (1, .inl x1)] [] I (fun r1 I1 => ∃ v1, r1 = some (.inl v1) ∧ ((v1 = (-11) → (RetB 0 I1 Q)) ∧
 (¬ (v1 = (-11)) → ((v1 = (rd I1 25 x2) → (RetB 0 I1 Q)) ∧
  (¬ (v1 = (rd I1 25 x2)) → ((¬ (rd I1 25 x2) = (-12) → ((¬ (rd I1 25 x2) = (-11) → (let J2 := wr I1 25 x2 (-12); RetB 1 J2 Q)) ∧
    (¬ (¬ (rd I1 25 x2) = (-11)) → (let J3 := wr I1 25 x2 v1; RetB 1 J3 Q)))) ∧
   (¬ (¬ (rd I1 25 x2) = (-12)) → (RetB 0 I1 Q))))))))) : R 3 0 [(0, .inr (some 20)), (1, .inl x1), (2, .inl x2)] [] I Q := by
  exact wseg_sound pr_ok (cut := []) ok_3 400 true 0 _ _ _ h
set_option maxRecDepth 20000 in
theorem t4_0 {Q : Post} (I : Mem) (x1 : Int) (h : (¬ (rd I 21 x1) = 0 → ((¬ (rd I 22 x1) = 0 → (Q (some (.inl (rd I 25 (wrap ((rd I 22 x1) - 65))))) I)) ∧
  (¬ (¬ (rd I 22 x1) = 0) → (Q (some (.inl (-13))) I)))) ∧
 (¬ (¬ (rd I 21 x1) = 0) → (Q (some (.inl x1)) I))) : R 4 0 [(0, .inr (some 20)), (1, .inl x1)] [] I Q := by
  exact wseg_sound pr_ok (cut := []) ok_4 400 true 0 _ _ _ h
set_option maxRecDepth 20000 in
theorem t10_0 {Q : Post} (I : Mem) (x2 : Int) (h : R 10 5 [(0, .inr (some 20)), (1, .inr (some 9)), (2, .inl x2), (3, .inl 0), (4, .inl 0)] [] I Q) : R 10 0 [(0, .inr (some 20)), (1, .inr (some 9)), (2, .inl x2)] [] I Q := by
  exact wseg_sound pr_ok (cut := [(5, [0, 1, 2, 3, 4])]) ok_10 400 true 0 _ _ _ h
set_option maxRecDepth 20000 in
theorem t10_5 {Q : Post} (I : Mem) (x2 : Int) (x3 : Int) (x4 : Int) (h : ((I 9 0) ≤ x4 → (Q (some (.inl x3)) I)) ∧
 (¬ ((I 9 0) ≤ x4) → ((¬ (rd I 10 x4) = 33 → (R 10 5 [(0, .inr (some 20)), (1, .inr (some 9)), (2, .inl x2), (3, .inl x3), (4, .inl (wrap (x4 + 1)))] [] I Q)) ∧
  (¬ (¬ (rd I 10 x4) = 33) → ((¬ (rd I 11 x4) = x2 → (R 10 5 [(0, .inr (some 20)), (1, .inr (some 9)), (2, .inl x2), (3, .inl x3), (4, .inl (wrap (x4 + 1)))] [] I Q)) ∧
   (¬ (¬ (rd I 11 x4) = x2) → (((b2i (decide (rd I 21 x4 = 1))) = 0 → (R 10 5 [(0, .inr (some 20)), (1, .inr (some 9)), (2, .inl x2), (3, .inl x3), (4, .inl (wrap (x4 + 1)))] [] I Q)) ∧
    (¬ ((b2i (decide (rd I 21 x4 = 1))) = 0) → (R 10 5 [(0, .inr (some 20)), (1, .inr (some 9)), (2, .inl x2), (3, .inl (wrap (x3 + 1))), (4, .inl (wrap (x4 + 1)))] [] I Q))))))))) : R 10 5 [(0, .inr (some 20)), (1, .inr (some 9)), (2, .inl x2), (3, .inl x3), (4, .inl x4)] [] I Q := by
  exact wseg_sound pr_ok (cut := [(5, [0, 1, 2, 3, 4])]) ok_10 400 true 5 _ _ _ h
set_option maxRecDepth 20000 in
theorem t11_0 {Q : Post} (I : Mem) (h : R 11 4 [(0, .inr (some 20)), (1, .inl 0), (2, .inl 0)] [] I Q) : R 11 0 [(0, .inr (some 20))] [] I Q := by
  exact wseg_sound pr_ok (cut := [(4, [0, 1, 2])]) ok_11 400 true 0 _ _ _ h
set_option maxRecDepth 20000 in
theorem t11_4 {Q : Post} (I : Mem) (x1 : Int) (x2 : Int) (h : (6 ≤ x2 → (Q (some (.inl x1)) I)) ∧
 (¬ (6 ≤ x2) → (((rd I 24 x2) < 0 → (R 11 4 [(0, .inr (some 20)), (1, .inl x1), (2, .inl (wrap (x2 + 1)))] [] I Q)) ∧
  (¬ ((rd I 24 x2) < 0) → (R 11 4 [(0, .inr (some 20)), (1, .inl (wrap (x1 + 1))), (2, .inl (wrap (x2 + 1)))] [] I Q))))) : R 11 4 [(0, .inr (some 20)), (1, .inl x1), (2, .inl x2)] [] I Q := by
  exact wseg_sound pr_ok (cut := [(4, [0, 1, 2])]) ok_11 400 true 4 _ _ _ h
set_option maxRecDepth 20000 in
theorem t12_0 {Q : Post} (I : Mem) (h : R 12 4 [(0, .inr (some 20)), (1, .inl 0), (2, .inl 0)] [] I Q) : R 12 0 [(0, .inr (some 20))] [] I Q := by
  exact wseg_sound pr_ok (cut := [(4, [0, 1, 2])]) ok_12 400 true 0 _ _ _ h
set_option maxRecDepth 20000 in
theorem t12_4 {Q : Post} (I : Mem) (x1 : Int) (x2 : Int) (h : (6 ≤ x2 → (Q (some (.inl x1)) I)) ∧
 (¬ (6 ≤ x2) → (((rd I 24 x2) < 0 → (R 12 4 [(0, .inr (some 20)), (1, .inl x1), (2, .inl (wrap (x2 + 1)))] [] I Q)) ∧
  (¬ ((rd I 24 x2) < 0) → (((b2i (jmp (rd I 25 (wrap ((wrap (65 + x2)) - 65))))) = 0 → (R 12 4 [(0, .inr (some 20)), (1, .inl x1), (2, .inl (wrap (x2 + 1)))] [] I Q)) ∧
   (¬ ((b2i (jmp (rd I 25 (wrap ((wrap (65 + x2)) - 65))))) = 0) → (R 12 4 [(0, .inr (some 20)), (1, .inl (wrap (x1 + 1))), (2, .inl (wrap (x2 + 1)))] [] I Q))))))) : R 12 4 [(0, .inr (some 20)), (1, .inl x1), (2, .inl x2)] [] I Q := by
  exact wseg_sound pr_ok (cut := [(4, [0, 1, 2])]) ok_12 400 true 4 _ _ _ h
set_option maxRecDepth 20000 in
theorem t24_0 {Q : Post} (I : Mem) (x3 : Int) (x4 : Int) (h : R 25 0 [(0, .inr (some 26)), (1, .inl x3), (2, .inl x4)] [] I (fun r1 I1 => r1 = none ∧ (R 26 0 [(0, .inr (some 26)), (1, .inl 0), (2, .inl (-1))] [] I1 (fun r2 I2 => r2 = none ∧ (R 24 16 [(0, .inr (some 26)), (1, .inr (some 9)), (2, .inr (some 20)), (5, .inl 0)] [] I2 Q))))) : R 24 0 [(0, .inr (some 26)), (1, .inr (some 9)), (2, .inr (some 20)), (3, .inl x3), (4, .inl x4)] [] I Q := by
  exact wseg_sound pr_ok (cut := [(16, [0, 1, 2, 5])]) ok_24 400 true 0 _ _ _ h
set_option maxRecDepth 20000 in
theorem t24_16 {Q : Post} (I : Mem) (x5 : Int) (h : (600 < x5 → (Q none I)) ∧
 (¬ (600 < x5) → (((I 26 11) ≤ 0 → (Q none I)) ∧
  (¬ ((I 26 11) ≤ 0) → ((¬ (I 26 0) = 0 → (Q none I)) ∧
   (¬ (¬ (I 26 0) = 0) → (R 28 0 [(0, .inr (some 26)), (1, .inr (some 9)), (2, .inr (some 20))] [] I (fun r1 I1 => r1 = none ∧ (R 24 16 [(0, .inr (some 26)), (1, .inr (some 9)), (2, .inr (some 20)), (5, .inl (wrap (x5 + 1)))] [] I1 Q))))))))) : R 24 16 [(0, .inr (some 26)), (1, .inr (some 9)), (2, .inr (some 20)), (5, .inl x5)] [] I Q := by
  exact wseg_sound pr_ok (cut := [(16, [0, 1, 2, 5])]) ok_24 400 true 16 _ _ _ h
set_option maxRecDepth 20000 in
theorem t25_0 {Q : Post} (I : Mem) (x1 : Int) (x2 : Int) (h : let J1 := upd2 I 26 16 x1; let J2 := upd2 J1 26 17 x2; isB 0 ∧ (let J3 := upd2 J2 26 0 0; let J4 := upd2 J3 26 1 0; let J5 := upd2 J4 26 2 0; let J6 := upd2 J5 26 3 0; let J7 := upd2 J6 26 11 0; let J8 := upd2 J7 26 15 0; R 25 42 [(0, .inr (some 26)), (3, .inl 0)] [] J8 Q)) : R 25 0 [(0, .inr (some 26)), (1, .inl x1), (2, .inl x2)] [] I Q := by
  exact wseg_sound pr_ok (cut := [(42, [0, 3]), (65, [0, 3])]) ok_25 400 true 0 _ _ _ h
set_option maxRecDepth 20000 in
theorem t25_42 {Q : Post} (I : Mem) (x3 : Int) (h : (60 ≤ x3 → (R 25 65 [(0, .inr (some 26)), (3, .inl 0)] [] I Q)) ∧
 (¬ (60 ≤ x3) → (let J1 := wr I 27 x3 0; R 25 42 [(0, .inr (some 26)), (3, .inl (wrap (x3 + 1)))] [] J1 Q))) : R 25 42 [(0, .inr (some 26)), (3, .inl x3)] [] I Q := by
  exact wseg_sound pr_ok (cut := [(42, [0, 3]), (65, [0, 3])]) ok_25 400 true 42 _ _ _ h
set_option maxRecDepth 20000 in
theorem t25_65 {Q : Post} (I : Mem) (x3 : Int) (h : (3 ≤ x3 → (Q none I)) ∧
 (¬ (3 ≤ x3) → (let J1 := wr I 28 x3 0; let J2 := wr J1 29 x3 0; R 25 65 [(0, .inr (some 26)), (3, .inl (wrap (x3 + 1)))] [] J2 Q))) : R 25 65 [(0, .inr (some 26)), (3, .inl x3)] [] I Q := by
  exact wseg_sound pr_ok (cut := [(42, [0, 3]), (65, [0, 3])]) ok_25 400 true 65 _ _ _ h
set_option maxRecDepth 20000 in
theorem t26_0 {Q : Post} (I : Mem) (x1 : Int) (x2 : Int) (h : (300 ≤ (I 26 2) → (isB 1 ∧ (let J1 := upd2 I 26 0 1; Q none J1))) ∧
 (¬ (300 ≤ (I 26 2)) → (((I 26 11) < 100 → (let J2 := upd2 I 26 2 (wrap ((I 26 2) + 1)); let J3 := wr J2 27 x1 (wrap ((rd J2 27 x1) + 1)); let J4 := wr J3 30 (J3 26 11) x1; let J5 := wr J4 31 (J4 26 11) x2; let J6 := wr J5 32 (J5 26 11) 0; let J7 := upd2 J6 26 11 (wrap ((J6 26 11) + 1)); Q none J7)) ∧
  (¬ ((I 26 11) < 100) → (isB 1 ∧ (let J8 := upd2 I 26 0 1; Q none J8)))))) : R 26 0 [(0, .inr (some 26)), (1, .inl x1), (2, .inl x2)] [] I Q := by
  exact wseg_sound pr_ok (cut := []) ok_26 400 true 0 _ _ _ h
set_option maxRecDepth 20000 in
theorem t28_0 {Q : Post} (I : Mem) (h : let J1 := wr I 32 (wrap ((I 26 11) - 1)) (wrap ((rd I 32 (wrap ((I 26 11) - 1))) + 1)); ((b2i (isOpr (rd J1 10 (rd I 30 (wrap ((I 26 11) - 1)))))) = 0 → ((¬ (rd J1 10 (rd I 30 (wrap ((I 26 11) - 1)))) = 63 → ((¬ (rd J1 10 (rd I 30 (wrap ((I 26 11) - 1)))) = 58 → ((¬ (rd J1 10 (rd I 30 (wrap ((I 26 11) - 1)))) = 64 → ((¬ (rd J1 10 (rd I 30 (wrap ((I 26 11) - 1)))) = 33 → (R 37 0 [(0, .inr (some 26)), (1, .inl (rd J1 10 (rd I 30 (wrap ((I 26 11) - 1))))), (2, .inl (rd I 31 (wrap ((I 26 11) - 1))))] [] J1 (fun r2 I2 => ∃ v2, r2 = some (.inl v2) ∧ (let J3 := upd2 (upd2 I2 26 1 v2) 26 11 (wrap (I2 26 11 - 1)); Q none J3)))) ∧
     (¬ (¬ (rd J1 10 (rd I 30 (wrap ((I 26 11) - 1)))) = 33) → (R 33 0 [(0, .inr (some 26)), (1, .inr (some 9)), (2, .inr (some 20)), (3, .inl (rd I 30 (wrap ((I 26 11) - 1)))), (4, .inl (rd I 31 (wrap ((I 26 11) - 1)))), (5, .inl (rd I 32 (wrap ((I 26 11) - 1))))] [] J1 (fun r4 I4 => r4 = none ∧ (Q none I4)))))) ∧
    (¬ (¬ (rd J1 10 (rd I 30 (wrap ((I 26 11) - 1)))) = 64) → (R 32 0 [(0, .inr (some 26)), (1, .inr (some 9)), (2, .inl (rd I 30 (wrap ((I 26 11) - 1)))), (3, .inl (rd I 31 (wrap ((I 26 11) - 1)))), (4, .inl (rd I 32 (wrap ((I 26 11) - 1))))] [] J1 (fun r5 I5 => r5 = none ∧ (Q none I5)))))) ∧
   (¬ (¬ (rd J1 10 (rd I 30 (wrap ((I 26 11) - 1)))) = 58) → (R 31 0 [(0, .inr (some 26)), (1, .inr (some 9)), (2, .inl (rd I 30 (wrap ((I 26 11) - 1)))), (3, .inl (rd I 31 (wrap ((I 26 11) - 1)))), (4, .inl (rd I 32 (wrap ((I 26 11) - 1))))] [] J1 (fun r6 I6 => r6 = none ∧ (Q none I6)))))) ∧
  (¬ (¬ (rd J1 10 (rd I 30 (wrap ((I 26 11) - 1)))) = 63) → (R 30 0 [(0, .inr (some 26)), (1, .inr (some 9)), (2, .inl (rd I 30 (wrap ((I 26 11) - 1)))), (3, .inl (rd I 31 (wrap ((I 26 11) - 1)))), (4, .inl (rd I 32 (wrap ((I 26 11) - 1))))] [] J1 (fun r7 I7 => r7 = none ∧ (Q none I7)))))) ∧
 (¬ ((b2i (isOpr (rd J1 10 (rd I 30 (wrap ((I 26 11) - 1)))))) = 0) → (R 29 0 [(0, .inr (some 26)), (1, .inr (some 9)), (2, .inl (rd I 30 (wrap ((I 26 11) - 1)))), (3, .inl (rd I 31 (wrap ((I 26 11) - 1)))), (4, .inl (rd I 32 (wrap ((I 26 11) - 1))))] [] J1 (fun r8 I8 => r8 = none ∧ (Q none I8))))) : R 28 0 [(0, .inr (some 26)), (1, .inr (some 9)), (2, .inr (some 20))] [] I Q := by
  exact wseg_sound pr_ok (cut := []) ok_28 400 true 0 _ _ _ h
set_option maxRecDepth 20000 in
theorem t29_0 {Q : Post} (I : Mem) (x2 : Int) (x3 : Int) (x4 : Int) (h : (¬ x4 = 0 → ((¬ x4 = 1 → (let J1 := upd2 (upd2 I 26 1 (oper (rd I 10 x2) (rd I 33 (wrap ((I 26 11) - 1))) (I 26 1))) 26 11 (wrap (I 26 11 - 1)); Q none J1)) ∧
  (¬ (¬ x4 = 1) → (let J2 := wr I 33 (wrap ((I 26 11) - 1)) (I 26 1); R 26 0 [(0, .inr (some 26)), (1, .inl (wrap (wrap (x2 + 1) + rd J2 15 (wrap (x2 + 1))))), (2, .inl x3)] [] J2 (fun r3 I3 => r3 = none ∧ (Q none I3)))))) ∧
 (¬ (¬ x4 = 0) → (R 26 0 [(0, .inr (some 26)), (1, .inl (wrap (x2 + 1))), (2, .inl x3)] [] I (fun r4 I4 => r4 = none ∧ (Q none I4))))) : R 29 0 [(0, .inr (some 26)), (1, .inr (some 9)), (2, .inl x2), (3, .inl x3), (4, .inl x4)] [] I Q := by
  exact wseg_sound pr_ok (cut := []) ok_29 400 true 0 _ _ _ h
set_option maxRecDepth 20000 in
theorem t30_0 {Q : Post} (I : Mem) (x2 : Int) (x3 : Int) (x4 : Int) (h : (¬ x4 = 0 → ((¬ x4 = 1 → (let J1 := upd2 (upd2 I 26 1 (I 26 1)) 26 11 (wrap (I 26 11 - 1)); Q none J1)) ∧
  (¬ (¬ x4 = 1) → ((¬ (I 26 1) = 0 → (R 26 0 [(0, .inr (some 26)), (1, .inl (wrap (wrap (wrap (x2 + 1) + rd I 15 (wrap (x2 + 1))) + rd I 15 (wrap (wrap (x2 + 1) + rd I 15 (wrap (x2 + 1))))))), (2, .inl x3)] [] I (fun r2 I2 => r2 = none ∧ (Q none I2)))) ∧
   (¬ (¬ (I 26 1) = 0) → (R 26 0 [(0, .inr (some 26)), (1, .inl (wrap (wrap (x2 + 1) + rd I 15 (wrap (x2 + 1))))), (2, .inl x3)] [] I (fun r3 I3 => r3 = none ∧ (Q none I3)))))))) ∧
 (¬ (¬ x4 = 0) → (R 26 0 [(0, .inr (some 26)), (1, .inl (wrap (x2 + 1))), (2, .inl x3)] [] I (fun r4 I4 => r4 = none ∧ (Q none I4))))) : R 30 0 [(0, .inr (some 26)), (1, .inr (some 9)), (2, .inl x2), (3, .inl x3), (4, .inl x4)] [] I Q := by
  exact wseg_sound pr_ok (cut := []) ok_30 400 true 0 _ _ _ h
set_option maxRecDepth 20000 in
theorem t31_0 {Q : Post} (I : Mem) (x2 : Int) (x3 : Int) (x4 : Int) (h : (¬ x4 = 0 → ((¬ x4 = 1 → (let J1 := upd2 (upd2 I 26 1 (I 26 1)) 26 11 (wrap (I 26 11 - 1)); Q none J1)) ∧
  (¬ (¬ x4 = 1) → (let J2 := upd2 (wr (wr (wr I 34 (I 26 15) (rd I 11 x2)) 35 (I 26 15) (I 26 1)) 36 (I 26 15) x3) 26 15 (wrap (I 26 15 + 1)); R 26 0 [(0, .inr (some 26)), (1, .inl (wrap (wrap (x2 + 1) + rd I 15 (wrap (x2 + 1))))), (2, .inl (I 26 15))] [] J2 (fun r3 I3 => r3 = none ∧ (Q none I3)))))) ∧
 (¬ (¬ x4 = 0) → (R 26 0 [(0, .inr (some 26)), (1, .inl (wrap (x2 + 1))), (2, .inl x3)] [] I (fun r4 I4 => r4 = none ∧ (Q none I4))))) : R 31 0 [(0, .inr (some 26)), (1, .inr (some 9)), (2, .inl x2), (3, .inl x3), (4, .inl x4)] [] I Q := by
  exact wseg_sound pr_ok (cut := []) ok_31 400 true 0 _ _ _ h
set_option maxRecDepth 20000 in
theorem t32_0 {Q : Post} (I : Mem) (x2 : Int) (x3 : Int) (x4 : Int) (h : (¬ x4 = 0 → (let J1 := upd2 (upd2 I 26 1 (I 26 1)) 26 11 (wrap (I 26 11 - 1)); Q none J1)) ∧
 (¬ (¬ x4 = 0) → (let J2 := upd2 (wr (wr (wr I 34 (I 26 15) (rd I 11 x2)) 35 (I 26 15) 0) 36 (I 26 15) x3) 26 15 (wrap (I 26 15 + 1)); R 26 0 [(0, .inr (some 26)), (1, .inl (wrap (wrap (x2 + 1) + rd I 15 (wrap (x2 + 1))))), (2, .inl (I 26 15))] [] J2 (fun r3 I3 => r3 = none ∧ (Q none I3))))) : R 32 0 [(0, .inr (some 26)), (1, .inr (some 9)), (2, .inl x2), (3, .inl x3), (4, .inl x4)] [] I Q := by
  exact wseg_sound pr_ok (cut := []) ok_32 400 true 0 _ _ _ h
set_option maxRecDepth 20000 in
theorem t33_0 {Q : Post} (I : Mem) (x3 : Int) (x4 : Int) (x5 : Int) (h : (¬ x5 = 0 → ((¬ x5 = 1 → (R 34 0 [(0, .inr (some 26)), (1, .inl (rd I 23 x3)), (2, .inl (-1))] [] I (fun r1 I1 => r1 = none ∧ (let J2 := upd2 (upd2 I1 26 1 (I1 26 1)) 26 11 (wrap (I1 26 11 - 1)); Q none J2)))) ∧
  (¬ (¬ x5 = 1) → (let J3 := upd2 I 26 3 (wrap ((I 26 3) + 1)); R 34 0 [(0, .inr (some 26)), (1, .inl (rd J3 23 x3)), (2, .inl 1)] [] J3 (fun r4 I4 => r4 = none ∧ (R 36 0 [(0, .inr (some 26)), (1, .inl x4), (2, .inl (rd I 11 x3))] [] I4 (fun r5 I5 => ∃ v5, r5 = some (.inl v5) ∧ (let J6 := upd2 (wr (wr (wr I5 34 (I5 26 15) (rd I5 12 (rd I4 24 (wrap ((rd I 11 x3) - 65))))) 35 (I5 26 15) (I5 26 1)) 36 (I5 26 15) v5) 26 15 (wrap (I5 26 15 + 1)); R 26 0 [(0, .inr (some 26)), (1, .inl (wrap ((rd I4 24 (wrap ((rd I 11 x3) - 65))) + 1))), (2, .inl (I5 26 15))] [] J6 (fun r7 I7 => r7 = none ∧ (Q none I7)))))))))) ∧
 (¬ (¬ x5 = 0) → (R 26 0 [(0, .inr (some 26)), (1, .inl (wrap (x3 + 1))), (2, .inl x4)] [] I (fun r8 I8 => r8 = none ∧ (Q none I8))))) : R 33 0 [(0, .inr (some 26)), (1, .inr (some 9)), (2, .inr (some 20)), (3, .inl x3), (4, .inl x4), (5, .inl x5)] [] I Q := by
  exact wseg_sound pr_ok (cut := []) ok_33 400 true 0 _ _ _ h
set_option maxRecDepth 20000 in
theorem t34_0 {Q : Post} (I : Mem) (x1 : Int) (x2 : Int) (h : R 34 2 [(0, .inr (some 26)), (1, .inl x1), (2, .inl x2), (3, .inl 0)] [] I Q) : R 34 0 [(0, .inr (some 26)), (1, .inl x1), (2, .inl x2)] [] I Q := by
  exact wseg_sound pr_ok (cut := [(2, [0, 1, 2, 3])]) ok_34 400 true 0 _ _ _ h
set_option maxRecDepth 20000 in
theorem t34_2 {Q : Post} (I : Mem) (x1 : Int) (x2 : Int) (x3 : Int) (h : (x1 ≤ x3 → (Q none I)) ∧
 (¬ (x1 ≤ x3) → (let J1 := wr I 29 x3 (wrap ((rd I 29 x3) + x2)); let J2 := wr J1 28 x3 (max (wrap ((rd I 29 x3) + x2)) (rd J1 28 x3)); R 34 2 [(0, .inr (some 26)), (1, .inl x1), (2, .inl x2), (3, .inl (wrap (x3 + 1)))] [] J2 Q))) : R 34 2 [(0, .inr (some 26)), (1, .inl x1), (2, .inl x2), (3, .inl x3)] [] I Q := by
  exact wseg_sound pr_ok (cut := [(2, [0, 1, 2, 3])]) ok_34 400 true 2 _ _ _ h
set_option maxRecDepth 20000 in
theorem t36_0 {Q : Post} (I : Mem) (x1 : Int) (x2 : Int) (h : R 36 5 [(0, .inr (some 26)), (2, .inl x2), (3, .inl x1), (4, .inl 0)] [] I Q) : R 36 0 [(0, .inr (some 26)), (1, .inl x1), (2, .inl x2)] [] I Q := by
  exact wseg_sound pr_ok (cut := [(5, [0, 2, 3, 4])]) ok_36 400 true 0 _ _ _ h
set_option maxRecDepth 20000 in
theorem t36_5 {Q : Post} (I : Mem) (x2 : Int) (x3 : Int) (x4 : Int) (h : (300 ≤ x4 → (Q (some (.inl x3)) I)) ∧
 (¬ (300 ≤ x4) → ((x3 < 0 → (Q (some (.inl x3)) I)) ∧
  (¬ (x3 < 0) → (((rd I 34 x3) = x2 → (Q (some (.inl x3)) I)) ∧
   (¬ ((rd I 34 x3) = x2) → (R 36 5 [(0, .inr (some 26)), (2, .inl x2), (3, .inl (rd I 36 x3)), (4, .inl (wrap (x4 + 1)))] [] I Q))))))) : R 36 5 [(0, .inr (some 26)), (2, .inl x2), (3, .inl x3), (4, .inl x4)] [] I Q := by
  exact wseg_sound pr_ok (cut := [(5, [0, 2, 3, 4])]) ok_36 400 true 5 _ _ _ h
set_option maxRecDepth 20000 in
theorem t37_0 {Q : Post} (I : Mem) (x1 : Int) (x2 : Int) (h : ((b2i (isDig x1)) = 0 → ((¬ x1 = 120 → ((¬ x1 = 121 → (R 36 0 [(0, .inr (some 26)), (1, .inl x2), (2, .inl x1)] [] I (fun r1 I1 => ∃ v1, r1 = some (.inl v1) ∧ (Q (some (.inl (rd I1 35 v1))) I1)))) ∧
   (¬ (¬ x1 = 121) → (Q (some (.inl (I 26 17))) I)))) ∧
  (¬ (¬ x1 = 120) → (Q (some (.inl (I 26 16))) I)))) ∧
 (¬ ((b2i (isDig x1)) = 0) → (Q (some (.inl (wrap (x1 - 48)))) I))) : R 37 0 [(0, .inr (some 26)), (1, .inl x1), (2, .inl x2)] [] I Q := by
  exact wseg_sound pr_ok (cut := []) ok_37 400 true 0 _ _ _ h
