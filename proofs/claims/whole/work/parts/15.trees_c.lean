set_option maxRecDepth 20000 in
theorem t76_0 {Q : Post} (I : Mem) (x1 : Int) (h : (x1 < 0 → (Q (some (.inl (-1))) I)) ∧
 (¬ (x1 < 0) → ((x1 ≤ 255 → (((I 0 1) < 60 → (let J1 := wr I 1 (I 0 1) x1; let J2 := upd2 J1 0 1 (wrap ((J1 0 1) + 1)); Q (some (.inl (J2 0 1))) J2)) ∧
   (¬ ((I 0 1) < 60) → (Q (some (.inl (-3))) I)))) ∧
  (¬ (x1 ≤ 255) → (Q (some (.inl (-1))) I))))) : R 76 0 [(0, .inr (some 0)), (1, .inl x1)] [] I Q := by
  exact wseg_sound pr_ok (cut := []) ok_76 400 true 0 _ _ _ h
set_option maxRecDepth 20000 in
theorem t77_0 {Q : Post} (I : Mem) (h : let J1 := upd2 I 0 1 0; Q (some (.inl (I 0 1))) J1) : R 77 0 [(0, .inr (some 0))] [] I Q := by
  exact wseg_sound pr_ok (cut := []) ok_77 400 true 0 _ _ _ h
set_option maxRecDepth 20000 in
theorem t78_0 {Q : Post} (I : Mem) (h : R 40 0 [(0, .inr (some 2)), (1, .inr (some 1)), (2, .inl (I 0 1))] [] I (fun r1 I1 => ∃ v1, r1 = some (.inl v1) ∧ ((v1 < 0 → (R 13 0 [(0, .inr (some 51)), (1, .inr (some 7))] [] I1 (fun r2 I2 => r2 = none ∧ (R 38 0 [(0, .inr (some 7)), (1, .inr (some 3)), (2, .inl (I2 2 1))] [] I2 (fun r3 I3 => r3 = none ∧ (let J4 := upd2 I3 0 1 0; R 101 0 [(0, .inr (some 0))] [] J4 (fun r5 I5 => r5 = none ∧ (Q (some (.inl (I5 9 0))) I5)))))))) ∧
 (¬ (v1 < 0) → (Q (some (.inl (wrap ((-10) - v1)))) I1))))) : R 78 0 [(0, .inr (some 0))] [] I Q := by
  exact wseg_sound pr_ok (cut := []) ok_78 400 true 0 _ _ _ h
set_option maxRecDepth 20000 in
theorem t79_0 {Q : Post} (I : Mem) (x1 : Int) (x2 : Int) (h : (¬ x1 = (I 7 2) → (R 13 0 [(0, .inr (some 51)), (1, .inr (some 7))] [] I (fun r1 I1 => r1 = none ∧ (let J2 := upd2 I1 7 2 x1; let J3 := upd2 J2 7 3 x2; Q (some (.inl 1)) J3)))) ∧
 (¬ (¬ x1 = (I 7 2)) → ((¬ x2 = (I 7 3) → (R 13 0 [(0, .inr (some 51)), (1, .inr (some 7))] [] I (fun r4 I4 => r4 = none ∧ (let J5 := upd2 I4 7 2 x1; let J6 := upd2 J5 7 3 x2; Q (some (.inl 1)) J6)))) ∧
  (¬ (¬ x2 = (I 7 3)) → (Q (some (.inl (-2))) I))))) : R 79 0 [(0, .inr (some 0)), (1, .inl x1), (2, .inl x2)] [] I Q := by
  exact wseg_sound pr_ok (cut := []) ok_79 400 true 0 _ _ _ h
set_option maxRecDepth 20000 in
theorem t80_0 {Q : Post} (I : Mem) (x1 : Int) (h : (x1 < 1 → (Q (some (.inl (-1))) I)) ∧
 (¬ (x1 < 1) → ((x1 ≤ 60 → (R 51 0 [(0, .inr (some 37)), (1, .inr (some 8)), (2, .inl (I 7 1))] [] I (fun r1 I1 => r1 = none ∧ (R 52 0 [(0, .inr (some 37)), (1, .inl x1)] [] I1 (fun r2 I2 => ∃ v2, r2 = some (.inl v2) ∧ ((¬ v2 = 0 → (R 13 0 [(0, .inr (some 51)), (1, .inr (some 7))] [] I2 (fun r3 I3 => r3 = none ∧ (R 38 0 [(0, .inr (some 7)), (1, .inr (some 38)), (2, .inl (I3 37 1))] [] I3 (fun r4 I4 => r4 = none ∧ (R 101 0 [(0, .inr (some 0))] [] I4 (fun r5 I5 => r5 = none ∧ (Q (some (.inl v2)) I5)))))))) ∧
   (¬ (¬ v2 = 0) → (Q (some (.inl (-2))) I2)))))))) ∧
  (¬ (x1 ≤ 60) → (Q (some (.inl (-1))) I))))) : R 80 0 [(0, .inr (some 0)), (1, .inl x1)] [] I Q := by
  exact wseg_sound pr_ok (cut := []) ok_80 400 true 0 _ _ _ h
set_option maxRecDepth 20000 in
theorem t81_0 {Q : Post} (I : Mem) (h : (¬ (I 51 2) = 0 → (R 14 0 [(0, .inr (some 51)), (1, .inr (some 7))] [] I (fun r1 I1 => r1 = none ∧ (R 101 0 [(0, .inr (some 0))] [] I1 (fun r2 I2 => r2 = none ∧ (Q (some (.inl (I2 51 2))) I2)))))) ∧
 (¬ (¬ (I 51 2) = 0) → (Q (some (.inl (-2))) I))) : R 81 0 [(0, .inr (some 0))] [] I Q := by
  exact wseg_sound pr_ok (cut := []) ok_81 400 true 0 _ _ _ h
set_option maxRecDepth 20000 in
theorem t82_0 {Q : Post} (I : Mem) (x1 : Int) (x2 : Int) (h : ((b2i (inI x1 0 (I 9 0 - 1))) = 0 → (Q (some (.inl (-1))) I)) ∧
 (¬ ((b2i (inI x1 0 (I 9 0 - 1))) = 0) → ((x2 < 0 → (Q (some (.inl (-1))) I)) ∧
  (¬ (x2 < 0) → ((x2 ≤ 3 → (((x2 = 0 → (Q (some (.inl (rd I 10 x1))) I)) ∧
    (¬ x2 = 0 → ((x2 = 1 → (Q (some (.inl (rd I 15 x1))) I)) ∧
    (¬ x2 = 1 → ((x2 = 2 → ((¬ x1 = 0 → (Q (some (.inl (rd I 16 x1))) I)) ∧
    (¬ (¬ x1 = 0) → (Q (some (.inl (-9))) I)))) ∧
    (¬ x2 = 2 → (Q (some (.inl (rd I 18 x1))) I))))))))) ∧
   (¬ (x2 ≤ 3) → (Q (some (.inl (-1))) I))))))) : R 82 0 [(0, .inr (some 0)), (1, .inl x1), (2, .inl x2)] [] I Q := by
  exact wseg_sound pr_ok (cut := []) ok_82 400 true 0 _ _ _ h
set_option maxRecDepth 20000 in
theorem t83_0 {Q : Post} (I : Mem) (x1 : Int) (h : ((-1) ≤ x1 → ((¬ x1 = (-1) → (((I 7 1) ≤ x1 → (Q (some (.inl (-9))) I)) ∧
   (¬ ((I 7 1) ≤ x1) → (Q (some (.inl (rd I 8 x1))) I)))) ∧
  (¬ (¬ x1 = (-1)) → (Q (some (.inl (I 7 1))) I)))) ∧
 (¬ ((-1) ≤ x1) → (Q (some (.inl (-1))) I))) : R 83 0 [(0, .inr (some 0)), (1, .inl x1)] [] I Q := by
  exact wseg_sound pr_ok (cut := []) ok_83 400 true 0 _ _ _ h
set_option maxRecDepth 20000 in
theorem t84_0 {Q : Post} (I : Mem) (x1 : Int) (h : (¬ (b2i (isVal x1)) = 0 → (R 74 0 [(0, .inr (some 9)), (1, .inl 0), (2, .inl x1)] [] I (fun r1 I1 => ∃ v1, r1 = some (.inl v1) ∧ (Q (some (.inl v1)) I1)))) ∧
 (¬ (¬ (b2i (isVal x1)) = 0) → ((¬ (b2i (isInp x1)) = 0 → (R 74 0 [(0, .inr (some 9)), (1, .inl 0), (2, .inl x1)] [] I (fun r2 I2 => ∃ v2, r2 = some (.inl v2) ∧ (Q (some (.inl v2)) I2)))) ∧
  (¬ (¬ (b2i (isInp x1)) = 0) → (Q (some (.inl (-1))) I))))) : R 84 0 [(0, .inr (some 0)), (1, .inl x1)] [] I Q := by
  exact wseg_sound pr_ok (cut := []) ok_84 400 true 0 _ _ _ h
set_option maxRecDepth 20000 in
theorem t85_0 {Q : Post} (I : Mem) (x1 : Int) (x2 : Int) (h : ((b2i (isFun x1)) = 0 → (Q (some (.inl (-1))) I)) ∧
 (¬ ((b2i (isFun x1)) = 0) → ((x2 < 0 → (Q (some (.inl (-1))) I)) ∧
  (¬ (x2 < 0) → ((x2 ≤ 4 → ((0 ≤ (rd I 24 (wrap (x1 - 65))) → (((x2 = 0 → (Q (some (.inl (rd I 24 (wrap (x1 - 65))))) I)) ∧
     (¬ x2 = 0 → ((x2 = 1 → (R 75 0 [(0, .inr (some 9)), (1, .inl 0), (2, .inl x1)] [] I (fun r2 I2 => ∃ v2, r2 = some (.inl v2) ∧ (Q (some (.inl v2)) I2)))) ∧
     (¬ x2 = 1 → ((x2 = 2 → (R 10 0 [(0, .inr (some 20)), (1, .inr (some 9)), (2, .inl x1)] [] I (fun r1 I1 => ∃ v1, r1 = some (.inl v1) ∧ (Q (some (.inl v1)) I1)))) ∧
     (¬ x2 = 2 → ((x2 = 3 → (Q (some (.inl (rd I 25 (wrap (x1 - 65))))) I)) ∧
     (¬ x2 = 3 → (((b2i (jmp (rd I 25 (wrap (x1 - 65))))) = 0 → (Q (some (.inl 0)) I)) ∧
     (¬ ((b2i (jmp (rd I 25 (wrap (x1 - 65))))) = 0) → (Q (some (.inl 1)) I))))))))))))) ∧
    (¬ (0 ≤ (rd I 24 (wrap (x1 - 65)))) → (Q (some (.inl (-9))) I)))) ∧
   (¬ (x2 ≤ 4) → (Q (some (.inl (-1))) I))))))) : R 85 0 [(0, .inr (some 0)), (1, .inl x1), (2, .inl x2)] [] I Q := by
  exact wseg_sound pr_ok (cut := []) ok_85 400 true 0 _ _ _ h
set_option maxRecDepth 20000 in
theorem t86_0 {Q : Post} (I : Mem) (x1 : Int) (h : (¬ (b2i (inI x1 0 (I 9 0 - 1))) = 0 → (((rd I 10 x1) = 33 → (((b2i (decide (rd I 21 x1 = 1))) = 0 → (Q (some (.inl 0)) I)) ∧
   (¬ ((b2i (decide (rd I 21 x1 = 1))) = 0) → (Q (some (.inl 1)) I)))) ∧
  (¬ ((rd I 10 x1) = 33) → (Q (some (.inl (-9))) I)))) ∧
 (¬ (¬ (b2i (inI x1 0 (I 9 0 - 1))) = 0) → (Q (some (.inl (-1))) I))) : R 86 0 [(0, .inr (some 0)), (1, .inl x1)] [] I Q := by
  exact wseg_sound pr_ok (cut := []) ok_86 400 true 0 _ _ _ h
set_option maxRecDepth 20000 in
theorem t87_0 {Q : Post} (I : Mem) (h : R 24 0 [(0, .inr (some 26)), (1, .inr (some 9)), (2, .inr (some 20)), (3, .inl (I 7 2)), (4, .inl (I 7 3))] [] I (fun r1 I1 => r1 = none ∧ (((I1 26 0) = 0 → (let J2 := upd2 I1 0 14 0; ((J2 26 0) = 0 → (Q (some (.inl (J2 26 1))) J2)) ∧
  (¬ ((J2 26 0) = 0) → (Q (some (.inl 0)) J2)))) ∧
 (¬ ((I1 26 0) = 0) → (let J3 := upd2 I1 0 14 1; ((J3 26 0) = 0 → (Q (some (.inl (J3 26 1))) J3)) ∧
  (¬ ((J3 26 0) = 0) → (Q (some (.inl 0)) J3))))))) : R 87 0 [(0, .inr (some 0))] [] I Q := by
  exact wseg_sound pr_ok (cut := []) ok_87 400 true 0 _ _ _ h
set_option maxRecDepth 20000 in
theorem t88_0 {Q : Post} (I : Mem) (h : Q (some (.inl (I 0 14))) I) : R 88 0 [(0, .inr (some 0))] [] I Q := by
  exact wseg_sound pr_ok (cut := []) ok_88 400 true 0 _ _ _ h
set_option maxRecDepth 20000 in
theorem t89_0 {Q : Post} (I : Mem) (x1 : Int) (h : (x1 < 0 → (Q (some (.inl (-1))) I)) ∧
 (¬ (x1 < 0) → ((x1 ≤ 2 → (R 24 0 [(0, .inr (some 26)), (1, .inr (some 9)), (2, .inr (some 20)), (3, .inl (I 7 2)), (4, .inl (I 7 3))] [] I (fun r1 I1 => r1 = none ∧ (((I1 26 0) = 0 → (((x1 = 0 → (Q (some (.inl (I1 26 2))) I1)) ∧
    (¬ x1 = 0 → ((x1 = 1 → (Q (some (.inl (I1 26 3))) I1)) ∧
    (¬ x1 = 1 → (Q (some (.inl (rd I1 28 0))) I1))))))) ∧
   (¬ ((I1 26 0) = 0) → (Q (some (.inl (-9))) I1)))))) ∧
  (¬ (x1 ≤ 2) → (Q (some (.inl (-1))) I))))) : R 89 0 [(0, .inr (some 0)), (1, .inl x1)] [] I Q := by
  exact wseg_sound pr_ok (cut := []) ok_89 400 true 0 _ _ _ h
set_option maxRecDepth 20000 in
theorem t90_0 {Q : Post} (I : Mem) (x1 : Int) (h : (x1 < 0 → (Q (some (.inl (-1))) I)) ∧
 (¬ (x1 < 0) → ((x1 < 3 → (R 24 0 [(0, .inr (some 26)), (1, .inr (some 9)), (2, .inr (some 20)), (3, .inl (I 7 2)), (4, .inl (I 7 3))] [] I (fun r1 I1 => r1 = none ∧ (((I1 26 0) = 0 → (Q (some (.inl (rd I1 28 x1))) I1)) ∧
   (¬ ((I1 26 0) = 0) → (Q (some (.inl (-9))) I1)))))) ∧
  (¬ (x1 < 3) → (Q (some (.inl (-1))) I))))) : R 90 0 [(0, .inr (some 0)), (1, .inl x1)] [] I Q := by
  exact wseg_sound pr_ok (cut := []) ok_90 400 true 0 _ _ _ h
set_option maxRecDepth 20000 in
theorem t91_0 {Q : Post} (I : Mem) (x1 : Int) (h : (¬ (b2i (inI x1 0 (I 9 0 - 1))) = 0 → (R 24 0 [(0, .inr (some 26)), (1, .inr (some 9)), (2, .inr (some 20)), (3, .inl (I 7 2)), (4, .inl (I 7 3))] [] I (fun r1 I1 => r1 = none ∧ (((I1 26 0) = 0 → (Q (some (.inl (rd I1 27 x1))) I1)) ∧
  (¬ ((I1 26 0) = 0) → (Q (some (.inl (-9))) I1)))))) ∧
 (¬ (¬ (b2i (inI x1 0 (I 9 0 - 1))) = 0) → (Q (some (.inl (-1))) I))) : R 91 0 [(0, .inr (some 0)), (1, .inl x1)] [] I Q := by
  exact wseg_sound pr_ok (cut := []) ok_91 400 true 0 _ _ _ h
set_option maxRecDepth 20000 in
theorem t92_0 {Q : Post} (I : Mem) (x1 : Int) (h : (x1 < 0 → (Q (some (.inl (-1))) I)) ∧
 (¬ (x1 < 0) → ((x1 ≤ 1 → (R 51 0 [(0, .inr (some 37)), (1, .inr (some 8)), (2, .inl (I 7 1))] [] I (fun r1 I1 => r1 = none ∧ (R 53 0 [(0, .inr (some 37))] [] I1 (fun r2 I2 => ∃ v2, r2 = some (.inl v2) ∧ ((¬ v2 = 0 → ((¬ x1 = 0 → (Q (some (.inl (I2 37 4))) I2)) ∧
    (¬ (¬ x1 = 0) → (Q (some (.inl (I2 37 3))) I2)))) ∧
   (¬ (¬ v2 = 0) → (Q (some (.inl (-9))) I2)))))))) ∧
  (¬ (x1 ≤ 1) → (Q (some (.inl (-1))) I))))) : R 92 0 [(0, .inr (some 0)), (1, .inl x1)] [] I Q := by
  exact wseg_sound pr_ok (cut := []) ok_92 400 true 0 _ _ _ h
set_option maxRecDepth 20000 in
theorem t93_0 {Q : Post} (I : Mem) (x1 : Int) (h : (x1 < 0 → (Q (some (.inl (-1))) I)) ∧
 (¬ (x1 < 0) → ((x1 ≤ 1 → (R 51 0 [(0, .inr (some 37)), (1, .inr (some 8)), (2, .inl (I 7 1))] [] I (fun r1 I1 => r1 = none ∧ (R 52 0 [(0, .inr (some 37)), (1, .inl 60)] [] I1 (fun r2 I2 => ∃ v2, r2 = some (.inl v2) ∧ ((¬ x1 = 0 → (Q (some (.inl (I2 40 0))) I2)) ∧
   (¬ (¬ x1 = 0) → (Q (some (.inl v2)) I2)))))))) ∧
  (¬ (x1 ≤ 1) → (Q (some (.inl (-1))) I))))) : R 93 0 [(0, .inr (some 0)), (1, .inl x1)] [] I Q := by
  exact wseg_sound pr_ok (cut := []) ok_93 400 true 0 _ _ _ h
set_option maxRecDepth 20000 in
theorem t94_0 {Q : Post} (I : Mem) (x1 : Int) (x2 : Int) (h : ((I 0 13) < 3 → (let J1 := wr I 75 (I 0 13) x1; let J2 := wr J1 76 (J1 0 13) x2; let J3 := upd2 J2 0 13 (wrap ((J2 0 13) + 1)); Q (some (.inl (J3 0 13))) J3)) ∧
 (¬ ((I 0 13) < 3) → (Q (some (.inl (-3))) I))) : R 94 0 [(0, .inr (some 0)), (1, .inl x1), (2, .inl x2)] [] I Q := by
  exact wseg_sound pr_ok (cut := []) ok_94 400 true 0 _ _ _ h
set_option maxRecDepth 20000 in
theorem t95_0 {Q : Post} (I : Mem) (h : let J1 := upd2 I 0 13 0; Q (some (.inl (I 0 13))) J1) : R 95 0 [(0, .inr (some 0))] [] I Q := by
  exact wseg_sound pr_ok (cut := []) ok_95 400 true 0 _ _ _ h
set_option maxRecDepth 20000 in
theorem t96_0 {Q : Post} (I : Mem) (h : R 96 4 [(0, .inr (some 0)), (1, .inl 0), (2, .inl 0)] [] I Q) : R 96 0 [(0, .inr (some 0))] [] I Q := by
  exact wseg_sound pr_ok (cut := [(4, [0, 1, 2])]) ok_96 400 true 0 _ _ _ h
set_option maxRecDepth 20000 in
theorem t96_4 {Q : Post} (I : Mem) (x1 : Int) (x2 : Int) (h : (10 ≤ x2 → (Q (some (.inl x1)) I)) ∧
 (¬ (10 ≤ x2) → (R 102 0 [(0, .inr (some 0)), (1, .inl x2)] [] I (fun r1 I1 => ∃ v1, r1 = some (.inl v1) ∧ ((v1 = 0 → (R 96 4 [(0, .inr (some 0)), (1, .inl x1), (2, .inl (wrap (x2 + 1)))] [] I1 Q)) ∧
  (¬ (v1 = 0) → (R 96 4 [(0, .inr (some 0)), (1, .inl (ior x1 (ishl 1 x2))), (2, .inl (wrap (x2 + 1)))] [] I1 Q))))))) : R 96 4 [(0, .inr (some 0)), (1, .inl x1), (2, .inl x2)] [] I Q := by
  exact wseg_sound pr_ok (cut := [(4, [0, 1, 2])]) ok_96 400 true 4 _ _ _ h
set_option maxRecDepth 20000 in
theorem t99_0 {Q : Post} (I : Mem) (x1 : Int) (h : ((x1 = 0 → (Q (some (.inl (I 9 0))) I)) ∧
 (¬ x1 = 0 → ((x1 = 1 → (R 11 0 [(0, .inr (some 20))] [] I (fun r2 I2 => ∃ v2, r2 = some (.inl v2) ∧ (Q (some (.inl v2)) I2)))) ∧
 (¬ x1 = 1 → ((x1 = 2 → (R 12 0 [(0, .inr (some 20))] [] I (fun r1 I1 => ∃ v1, r1 = some (.inl v1) ∧ (Q (some (.inl v1)) I1)))) ∧
 (¬ x1 = 2 → ((x1 = 3 → (Q (some (.inl (I 0 13))) I)) ∧
 (¬ x1 = 3 → ((x1 = 4 → (Q (some (.inl (I 0 1))) I)) ∧
 (¬ x1 = 4 → ((x1 = 5 → (Q (some (.inl (I 51 2))) I)) ∧
 (¬ x1 = 5 → (Q (some (.inl (-1))) I)))))))))))))) : R 99 0 [(0, .inr (some 0)), (1, .inl x1)] [] I Q := by
  exact wseg_sound pr_ok (cut := []) ok_99 400 true 0 _ _ _ h
set_option maxRecDepth 20000 in
theorem t100_0 {Q : Post} (I : Mem) (x1 : Int) (h : (¬ x1 = 0 → ((¬ x1 = 1 → (Q (some (.inl 0)) I)) ∧
  (¬ (¬ x1 = 1) → (Q (some (.inl (I 7 3))) I)))) ∧
 (¬ (¬ x1 = 0) → (Q (some (.inl (I 7 2))) I))) : R 100 0 [(0, .inr (some 0)), (1, .inl x1)] [] I Q := by
  exact wseg_sound pr_ok (cut := []) ok_100 400 true 0 _ _ _ h
set_option maxRecDepth 20000 in
theorem t101_0 {Q : Post} (I : Mem) (h : R 67 0 [(0, .inr (some 9)), (1, .inr (some 8)), (2, .inl (I 7 1))] [] I (fun r1 I1 => r1 = none ∧ (R 0 0 [(0, .inr (some 20)), (1, .inr (some 9))] [] I1 (fun r2 I2 => r2 = none ∧ (Q none I2))))) : R 101 0 [(0, .inr (some 0))] [] I Q := by
  exact wseg_sound pr_ok (cut := []) ok_101 400 true 0 _ _ _ h
set_option maxRecDepth 20000 in
theorem t102_0 {Q : Post} (I : Mem) (x1 : Int) (h : R 102 2 [(0, .inr (some 0)), (1, .inl x1), (2, .inl 0)] [] I Q) : R 102 0 [(0, .inr (some 0)), (1, .inl x1)] [] I Q := by
  exact wseg_sound pr_ok (cut := [(2, [0, 1, 2])]) ok_102 400 true 0 _ _ _ h
set_option maxRecDepth 20000 in
theorem t102_2 {Q : Post} (I : Mem) (x1 : Int) (x2 : Int) (h : ((I 0 13) ≤ x2 → (RetB 1 I Q)) ∧
 (¬ ((I 0 13) ≤ x2) → (R 24 0 [(0, .inr (some 26)), (1, .inr (some 9)), (2, .inr (some 20)), (3, .inl x1), (4, .inl (rd I 75 x2))] [] I (fun r1 I1 => r1 = none ∧ ((¬ (I1 26 0) = 0 → (RetB 0 I1 Q)) ∧
  (¬ (¬ (I1 26 0) = 0) → (((I1 26 1) = (rd I1 76 x2) → (R 102 2 [(0, .inr (some 0)), (1, .inl x1), (2, .inl (wrap (x2 + 1)))] [] I1 Q)) ∧
   (¬ ((I1 26 1) = (rd I1 76 x2)) → (RetB 0 I1 Q))))))))) : R 102 2 [(0, .inr (some 0)), (1, .inl x1), (2, .inl x2)] [] I Q := by
  exact wseg_sound pr_ok (cut := [(2, [0, 1, 2])]) ok_102 400 true 2 _ _ _ h
