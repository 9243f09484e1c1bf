set_option maxRecDepth 20000 in
theorem t114_0 {Q : Post} (I : Mem) (x1 : Int) (h : let J1 := upd2 I 77 0 0; (¬ (b2i (inI x1 0 255)) = 0 → ((¬ (J1 77 2) = 60 → (inb (J1 77 2) (60) ∧ (let J2 := upd2 J1 78 (J1 77 2).toNat x1; let J3 := upd2 J2 77 2 (wrap ((J2 77 2) + 1)); Q (some (.inl (J3 77 2))) J3))) ∧
  (¬ (¬ (J1 77 2) = 60) → (Q (some (.inl (-3))) J1)))) ∧
 (¬ (¬ (b2i (inI x1 0 255)) = 0) → (Q (some (.inl (-1))) J1))) : R 114 0 [(0, .inr (some 77)), (1, .inl x1)] [] I Q := by
  exact wseg_sound pr_ok (cut := []) ok_114 400 true 0 _ _ _ h
set_option maxRecDepth 20000 in
theorem t115_0 {Q : Post} (I : Mem) (h : let J1 := upd2 I 77 0 0; let J2 := upd2 J1 77 2 0; Q (some (.inl (J1 77 2))) J2) : R 115 0 [(0, .inr (some 77))] [] I Q := by
  exact wseg_sound pr_ok (cut := []) ok_115 400 true 0 _ _ _ h
set_option maxRecDepth 20000 in
theorem t117_0 {Q : Post} (I : Mem) (h : ((I 77 13) ≤ 0 → (Q none I)) ∧
 (¬ ((I 77 13) ≤ 0) → (inb (wrap ((I 77 13) - 1)) (400) ∧ (((I 85 (wrap ((I 77 13) - 1)).toNat) = 0 → (Q none I)) ∧
  (¬ ((I 85 (wrap ((I 77 13) - 1)).toNat) = 0) → (let J1 := upd2 I 77 13 (wrap ((I 77 13) - 1)); inb (J1 77 13) (400) ∧ (((J1 85 (J1 77 13).toNat) < 2000 → (inb (wrap ((J1 85 (J1 77 13).toNat) - 1000)) (128) ∧ isB 1 ∧ (let J2 := upd2 J1 87 (wrap ((J1 85 (J1 77 13).toNat) - 1000)).toNat 1; R 117 0 [(0, .inr (some 77))] [] J2 Q))) ∧
   (¬ ((J1 85 (J1 77 13).toNat) < 2000) → (inb (wrap ((J1 85 (J1 77 13).toNat) - 2000)) (128) ∧ isB 0 ∧ (let J3 := upd2 J1 87 (wrap ((J1 85 (J1 77 13).toNat) - 2000)).toNat 0; R 117 0 [(0, .inr (some 77))] [] J3 Q)))))))))) : R 117 0 [(0, .inr (some 77))] [] I Q := by
  exact wseg_sound pr_ok (cut := [(0, [0])]) ok_117 400 true 0 _ _ _ h
set_option maxRecDepth 20000 in
theorem t118_0 {Q : Post} (I : Mem) (x1 : Int) (h : (¬ (b2i (isDig x1)) = 0 → (let J1 := upd2 I 77 13 (wrap ((I 77 13) - 1)); R 118 51 [(0, .inr (some 77)), (1, .inl x1), (2, .inl 0)] [] J1 Q)) ∧
 (¬ (¬ (b2i (isDig x1)) = 0) → ((¬ (b2i (isInp x1)) = 0 → (let J2 := upd2 I 77 13 (wrap ((I 77 13) - 1)); R 118 51 [(0, .inr (some 77)), (1, .inl x1), (2, .inl 0)] [] J2 Q)) ∧
  (¬ (¬ (b2i (isInp x1)) = 0) → (((b2i (isVal x1)) = 0 → ((¬ ((pts x1 : Nat) : Int) = 0 → (let J3 := upd2 I 77 13 (wrap ((I 77 13) - 1)); R 118 51 [(0, .inr (some 77)), (1, .inl x1), (2, .inl 0)] [] J3 Q)) ∧
    (¬ (¬ ((pts x1 : Nat) : Int) = 0) → (RetB 0 I Q)))) ∧
   (¬ ((b2i (isVal x1)) = 0) → (inb x1 (128) ∧ ((¬ (I 87 (x1).toNat) = 0 → (let J4 := upd2 I 77 13 (wrap ((I 77 13) - 1)); R 118 51 [(0, .inr (some 77)), (1, .inl x1), (2, .inl 0)] [] J4 Q)) ∧
    (¬ (¬ (I 87 (x1).toNat) = 0) → ((¬ ((pts x1 : Nat) : Int) = 0 → (let J5 := upd2 I 77 13 (wrap ((I 77 13) - 1)); R 118 51 [(0, .inr (some 77)), (1, .inl x1), (2, .inl 0)] [] J5 Q)) ∧
     (¬ (¬ ((pts x1 : Nat) : Int) = 0) → (RetB 0 I Q)))))))))))) : R 118 0 [(0, .inr (some 77)), (1, .inl x1)] [] I Q := by
  exact wseg_sound pr_ok (cut := [(51, [0, 1, 2])]) ok_118 400 true 0 _ _ _ h
set_option maxRecDepth 20000 in
theorem t118_51 {Q : Post} (I : Mem) (x1 : Int) (x2 : Int) (h : (((pts x1 : Nat) : Int) ≤ x2 → ((¬ x1 = 58 → ((¬ x1 = 64 → ((¬ x1 = 33 → (let J1 := upd2 I 77 18 0; let J2 := upd2 J1 77 19 x1; RetB 1 J2 Q)) ∧
    (¬ (¬ x1 = 33) → (let J3 := upd2 I 77 18 3; let J4 := upd2 J3 77 19 x1; RetB 1 J4 Q)))) ∧
   (¬ (¬ x1 = 64) → (let J5 := upd2 I 77 18 2; let J6 := upd2 J5 77 19 x1; RetB 1 J6 Q)))) ∧
  (¬ (¬ x1 = 58) → (let J7 := upd2 I 77 18 1; let J8 := upd2 J7 77 19 x1; RetB 1 J8 Q)))) ∧
 (¬ (((pts x1 : Nat) : Int) ≤ x2) → ((¬ ((hds x1 - 1 : Nat) : Int) = 0 → ((¬ x1 = 58 → ((¬ x1 = 64 → ((¬ x1 = 33 → (let J9 := upd2 I 77 18 0; let J10 := upd2 J9 77 19 x1; RetB 1 J10 Q)) ∧
     (¬ (¬ x1 = 33) → (let J11 := upd2 I 77 18 3; let J12 := upd2 J11 77 19 x1; RetB 1 J12 Q)))) ∧
    (¬ (¬ x1 = 64) → (let J13 := upd2 I 77 18 2; let J14 := upd2 J13 77 19 x1; RetB 1 J14 Q)))) ∧
   (¬ (¬ x1 = 58) → (let J15 := upd2 I 77 18 1; let J16 := upd2 J15 77 19 x1; RetB 1 J16 Q)))) ∧
  (¬ (¬ ((hds x1 - 1 : Nat) : Int) = 0) → (inb (I 77 13) 400 ∧ (let J17 := upd2 (upd2 I 85 (I 77 13).toNat 0) 77 13 (wrap (I 77 13 + 1)); R 118 51 [(0, .inr (some 77)), (1, .inl x1), (2, .inl (wrap (x2 + 1)))] [] J17 Q)))))) : R 118 51 [(0, .inr (some 77)), (1, .inl x1), (2, .inl x2)] [] I Q := by
  exact wseg_sound pr_ok (cut := [(51, [0, 1, 2])]) ok_118 400 true 51 _ _ _ h
set_option maxRecDepth 20000 in
theorem t119_0 {Q : Post} (I : Mem) (x1 : Int) (h : ((b2i (isVal x1)) = 0 → (RetB 0 I Q)) ∧
 (¬ ((b2i (isVal x1)) = 0) → (inb x1 (128) ∧ (((I 86 (x1).toNat) = 0 → (inb x1 (128) ∧ isB 1 ∧ (let J1 := upd2 I 86 (x1).toNat 1; (¬ (J1 77 19) = 58 → (inb (J1 77 13) 400 ∧ (let J2 := upd2 (upd2 J1 85 (J1 77 13).toNat (wrap (2000 + (J1 77 19)))) 77 13 (wrap (J1 77 13 + 1)); inb (J2 77 13) 400 ∧ (let J3 := upd2 (upd2 J2 85 (J2 77 13).toNat 0) 77 13 (wrap (J2 77 13 + 1)); inb (J3 77 13) 400 ∧ (let J4 := upd2 (upd2 J3 85 (J3 77 13).toNat (wrap (2000 + x1))) 77 13 (wrap (J3 77 13 + 1)); inb (J4 77 13) 400 ∧ (let J5 := upd2 (upd2 J4 85 (J4 77 13).toNat 0) 77 13 (wrap (J4 77 13 + 1)); inb (J5 77 13) 400 ∧ (let J6 := upd2 (upd2 J5 85 (J5 77 13).toNat (wrap (1000 + x1))) 77 13 (wrap (J5 77 13 + 1)); inb (J6 77 13) 400 ∧ (let J7 := upd2 (upd2 J6 85 (J6 77 13).toNat (wrap (1000 + (J6 77 19)))) 77 13 (wrap (J6 77 13 + 1)); let J8 := upd2 J7 77 18 0; RetB 1 J8 Q)))))))) ∧
   (¬ (¬ (J1 77 19) = 58) → (inb (J1 77 13) 400 ∧ (let J9 := upd2 (upd2 J1 85 (J1 77 13).toNat (wrap (2000 + x1))) 77 13 (wrap (J1 77 13 + 1)); inb (J9 77 13) 400 ∧ (let J10 := upd2 (upd2 J9 85 (J9 77 13).toNat 0) 77 13 (wrap (J9 77 13 + 1)); inb (J10 77 13) 400 ∧ (let J11 := upd2 (upd2 J10 85 (J10 77 13).toNat (wrap (1000 + x1))) 77 13 (wrap (J10 77 13 + 1)); inb (J11 77 13) 400 ∧ (let J12 := upd2 (upd2 J11 85 (J11 77 13).toNat 0) 77 13 (wrap (J11 77 13 + 1)); let J13 := upd2 J12 77 18 0; RetB 1 J13 Q))))))))) ∧
  (¬ ((I 86 (x1).toNat) = 0) → (RetB 0 I Q)))))) : R 119 0 [(0, .inr (some 77)), (1, .inl x1)] [] I Q := by
  exact wseg_sound pr_ok (cut := []) ok_119 400 true 0 _ _ _ h
set_option maxRecDepth 20000 in
theorem t120_0 {Q : Post} (I : Mem) (x1 : Int) (h : ((b2i (isFun x1)) = 0 → (RetB 0 I Q)) ∧
 (¬ ((b2i (isFun x1)) = 0) → (inb x1 (128) ∧ (((I 86 (x1).toNat) = 0 → (inb x1 (128) ∧ isB 1 ∧ (let J1 := upd2 I 86 (x1).toNat 1; let J2 := upd2 J1 77 19 x1; let J3 := upd2 J2 77 18 1; RetB 1 J3 Q))) ∧
  (¬ ((I 86 (x1).toNat) = 0) → (RetB 0 I Q)))))) : R 120 0 [(0, .inr (some 77)), (1, .inl x1)] [] I Q := by
  exact wseg_sound pr_ok (cut := []) ok_120 400 true 0 _ _ _ h
set_option maxRecDepth 20000 in
theorem t121_0 {Q : Post} (I : Mem) (x1 : Int) (h : ((b2i (isFun x1)) = 0 → (RetB 0 I Q)) ∧
 (¬ ((b2i (isFun x1)) = 0) → (inb x1 (128) ∧ ((¬ (I 87 (x1).toNat) = 0 → (inb (I 77 13) 400 ∧ (let J1 := upd2 (upd2 I 85 (I 77 13).toNat 0) 77 13 (wrap (I 77 13 + 1)); let J2 := upd2 J1 77 18 0; RetB 1 J2 Q))) ∧
  (¬ (¬ (I 87 (x1).toNat) = 0) → (RetB 0 I Q)))))) : R 121 0 [(0, .inr (some 77)), (1, .inl x1)] [] I Q := by
  exact wseg_sound pr_ok (cut := []) ok_121 400 true 0 _ _ _ h
set_option maxRecDepth 20000 in
theorem t122_0 {Q : Post} (I : Mem) (x1 : Int) (h : (127 < x1 → (RetB 0 I Q)) ∧
 (¬ (127 < x1) → ((¬ (I 77 18) = 0 → ((¬ (I 77 18) = 0 → ((¬ (I 77 18) = 1 → ((¬ (I 77 18) = 2 → (R 121 0 [(0, .inr (some 77)), (1, .inl x1)] [] I (fun r1 I1 => ∃ v1, r1 = some (.inl v1) ∧ (R 122 74 [(0, .inr (some 77)), (1, .inl x1)] [.inl v1] I1 Q)))) ∧
     (¬ (¬ (I 77 18) = 2) → (R 120 0 [(0, .inr (some 77)), (1, .inl x1)] [] I (fun r2 I2 => ∃ v2, r2 = some (.inl v2) ∧ (R 122 74 [(0, .inr (some 77)), (1, .inl x1)] [.inl v2] I2 Q)))))) ∧
    (¬ (¬ (I 77 18) = 1) → (R 119 0 [(0, .inr (some 77)), (1, .inl x1)] [] I (fun r3 I3 => ∃ v3, r3 = some (.inl v3) ∧ (R 122 74 [(0, .inr (some 77)), (1, .inl x1)] [.inl v3] I3 Q)))))) ∧
   (¬ (¬ (I 77 18) = 0) → (R 118 0 [(0, .inr (some 77)), (1, .inl x1)] [] I (fun r4 I4 => ∃ v4, r4 = some (.inl v4) ∧ (R 122 74 [(0, .inr (some 77)), (1, .inl x1)] [.inl v4] I4 Q)))))) ∧
  (¬ (¬ (I 77 18) = 0) → ((¬ (I 77 13) = 0 → ((¬ (I 77 18) = 0 → ((¬ (I 77 18) = 1 → ((¬ (I 77 18) = 2 → (R 121 0 [(0, .inr (some 77)), (1, .inl x1)] [] I (fun r5 I5 => ∃ v5, r5 = some (.inl v5) ∧ (R 122 74 [(0, .inr (some 77)), (1, .inl x1)] [.inl v5] I5 Q)))) ∧
      (¬ (¬ (I 77 18) = 2) → (R 120 0 [(0, .inr (some 77)), (1, .inl x1)] [] I (fun r6 I6 => ∃ v6, r6 = some (.inl v6) ∧ (R 122 74 [(0, .inr (some 77)), (1, .inl x1)] [.inl v6] I6 Q)))))) ∧
     (¬ (¬ (I 77 18) = 1) → (R 119 0 [(0, .inr (some 77)), (1, .inl x1)] [] I (fun r7 I7 => ∃ v7, r7 = some (.inl v7) ∧ (R 122 74 [(0, .inr (some 77)), (1, .inl x1)] [.inl v7] I7 Q)))))) ∧
    (¬ (¬ (I 77 18) = 0) → (R 118 0 [(0, .inr (some 77)), (1, .inl x1)] [] I (fun r8 I8 => ∃ v8, r8 = some (.inl v8) ∧ (R 122 74 [(0, .inr (some 77)), (1, .inl x1)] [.inl v8] I8 Q)))))) ∧
   (¬ (¬ (I 77 13) = 0) → (RetB 0 I Q))))))) : R 122 0 [(0, .inr (some 77)), (1, .inl x1)] [] I Q := by
  exact wseg_sound pr_ok (cut := [(74, [0, 1])]) ok_122 400 true 0 _ _ _ h
set_option maxRecDepth 20000 in
theorem t122_74 {Q : Post} (I : Mem) (x1 : Int) (y0 : Int) (h : (y0 = 0 → (RetB y0 I Q)) ∧
 (¬ (y0 = 0) → (inb (I 77 17) (60) ∧ (let J1 := upd2 I 88 (I 77 17).toNat x1; let J2 := upd2 J1 77 17 (wrap ((J1 77 17) + 1)); (¬ (J2 77 18) = 0 → (RetB y0 J2 Q)) ∧
  (¬ (¬ (J2 77 18) = 0) → (R 117 0 [(0, .inr (some 77))] [] J2 (fun r3 I3 => r3 = none ∧ (RetB y0 I3 Q)))))))) : R 122 74 [(0, .inr (some 77)), (1, .inl x1)] [.inl y0] I Q := by
  exact wseg_sound pr_ok (cut := [(74, [0, 1])]) ok_122 400 true 74 _ _ _ h
set_option maxRecDepth 20000 in
theorem t123_0 {Q : Post} (I : Mem) (h : let J1 := upd2 I 77 0 0; let J2 := upd2 J1 77 13 0; let J3 := upd2 J2 77 17 0; let J4 := upd2 J3 77 18 0; R 123 22 [(0, .inr (some 77)), (1, .inl 0)] [] J4 Q) : R 123 0 [(0, .inr (some 77))] [] I Q := by
  exact wseg_sound pr_ok (cut := [(22, [0, 1]), (56, [0, 1]), (127, [0, 1])]) ok_123 400 true 0 _ _ _ h
set_option maxRecDepth 20000 in
theorem t123_22 {Q : Post} (I : Mem) (x1 : Int) (h : (128 ≤ x1 → (inb (I 77 13) 400 ∧ (let J1 := upd2 (upd2 I 85 (I 77 13).toNat 0) 77 13 (wrap (I 77 13 + 1)); R 123 56 [(0, .inr (some 77)), (1, .inl 0)] [] J1 Q))) ∧
 (¬ (128 ≤ x1) → (inb x1 (128) ∧ isB 0 ∧ (let J2 := upd2 I 86 (x1).toNat 0; inb x1 (128) ∧ isB 0 ∧ (let J3 := upd2 J2 87 (x1).toNat 0; R 123 22 [(0, .inr (some 77)), (1, .inl (wrap (x1 + 1)))] [] J3 Q))))) : R 123 22 [(0, .inr (some 77)), (1, .inl x1)] [] I Q := by
  exact wseg_sound pr_ok (cut := [(22, [0, 1]), (56, [0, 1]), (127, [0, 1])]) ok_123 400 true 22 _ _ _ h
set_option maxRecDepth 20000 in
theorem t123_56 {Q : Post} (I : Mem) (x1 : Int) (h : ((I 77 2) ≤ x1 → ((0 < (I 77 18) → (Q (some (.inl (wrap ((-10) - (I 77 2))))) I)) ∧
  (¬ (0 < (I 77 18)) → (((I 77 13) ≤ 0 → (R 135 0 [(0, .inr (some 77))] [] I (fun r1 I1 => r1 = none ∧ (R 123 127 [(0, .inr (some 77)), (1, .inl 0)] [] I1 Q)))) ∧
   (¬ ((I 77 13) ≤ 0) → (Q (some (.inl (wrap ((-10) - (I 77 2))))) I)))))) ∧
 (¬ ((I 77 2) ≤ x1) → (inb x1 (60) ∧ (((I 78 (x1).toNat) = 32 → (R 123 56 [(0, .inr (some 77)), (1, .inl (wrap (x1 + 1)))] [] I Q)) ∧
  (¬ ((I 78 (x1).toNat) = 32) → (inb x1 (60) ∧ (R 122 0 [(0, .inr (some 77)), (1, .inl (I 78 (x1).toNat))] [] I (fun r2 I2 => ∃ v2, r2 = some (.inl v2) ∧ ((¬ v2 = 0 → (R 123 56 [(0, .inr (some 77)), (1, .inl (wrap (x1 + 1)))] [] I2 Q)) ∧
   (¬ (¬ v2 = 0) → (Q (some (.inl (wrap ((-10) - x1)))) I2))))))))))) : R 123 56 [(0, .inr (some 77)), (1, .inl x1)] [] I Q := by
  exact wseg_sound pr_ok (cut := [(22, [0, 1]), (56, [0, 1]), (127, [0, 1])]) ok_123 400 true 56 _ _ _ h
set_option maxRecDepth 20000 in
theorem t123_127 {Q : Post} (I : Mem) (x1 : Int) (h : ((I 77 17) ≤ x1 → (inb 60 (63) ∧ (let J1 := upd2 I 79 (60 : Int).toNat (I 77 17); R 127 0 [(0, .inr (some 77))] [] J1 (fun r2 I2 => r2 = none ∧ (let J3 := upd2 I2 77 2 0; Q (some (.inl (J3 77 20))) J3))))) ∧
 (¬ ((I 77 17) ≤ x1) → (inb x1 (60) ∧ (inb x1 (63) ∧ (let J4 := upd2 I 79 (x1).toNat (I 88 (x1).toNat); R 123 127 [(0, .inr (some 77)), (1, .inl (wrap (x1 + 1)))] [] J4 Q))))) : R 123 127 [(0, .inr (some 77)), (1, .inl x1)] [] I Q := by
  exact wseg_sound pr_ok (cut := [(22, [0, 1]), (56, [0, 1]), (127, [0, 1])]) ok_123 400 true 127 _ _ _ h
set_option maxRecDepth 20000 in
theorem t126_0 {Q : Post} (I : Mem) (x1 : Int) (x2 : Int) (x3 : Int) (h : mletP I x2 ∧ (inb x1 (60) ∧ (let J1 := upd2 I 92 (x1).toNat x2; inb x2 (60) ∧ (inb x1 (60) ∧ (let J2 := upd2 J1 93 (x1).toNat (wrap ((J1 93 (x2).toNat) + 1)); inb (wrap ((wrap (3 * x2)) + x3)) (180) ∧ (let J3 := upd2 J2 94 (wrap ((wrap (3 * x2)) + x3)).toNat x1; (¬ (mlet I x2) = 64 → (R 126 55 [(0, .inr (some 77)), (1, .inl x1), (2, .inl x2), (3, .inl x3), (4, .inl (mlet I x2))] [.inl 0] J3 Q)) ∧
 (¬ (¬ (mlet I x2) = 64) → ((¬ x3 = 0 → (R 126 55 [(0, .inr (some 77)), (1, .inl x1), (2, .inl x2), (3, .inl x3), (4, .inl (mlet I x2))] [.inl 0] J3 Q)) ∧
  (¬ (¬ x3 = 0) → (R 126 55 [(0, .inr (some 77)), (1, .inl x1), (2, .inl x2), (3, .inl x3), (4, .inl (mlet I x2))] [.inl 1] J3 Q)))))))))) : R 126 0 [(0, .inr (some 77)), (1, .inl x1), (2, .inl x2), (3, .inl x3)] [] I Q := by
  exact wseg_sound pr_ok (cut := [(55, [0, 1, 2, 3, 4]), (89, [0, 1, 2, 3, 4, 5]), (147, [])]) ok_126 400 true 0 _ _ _ h
set_option maxRecDepth 20000 in
theorem t126_55 {Q : Post} (I : Mem) (x1 : Int) (x2 : Int) (x3 : Int) (x4 : Int) (y0 : Int) (h : (y0 = 0 → (inb x2 (60) ∧ (R 126 89 [(0, .inr (some 77)), (1, .inl x1), (2, .inl x2), (3, .inl x3), (4, .inl x4), (5, .inl y0)] [.inl (I 95 (x2).toNat), .inl x1, .inr (some 95)] I Q))) ∧
 (¬ (y0 = 0) → (inb x2 (60) ∧ (inb (wrap ((I 89 (x2).toNat) + 1)) (63) ∧ (R 126 89 [(0, .inr (some 77)), (1, .inl x1), (2, .inl x2), (3, .inl x3), (4, .inl x4), (5, .inl y0)] [.inl (I 79 (wrap ((I 89 (x2).toNat) + 1)).toNat), .inl x1, .inr (some 95)] I Q))))) : R 126 55 [(0, .inr (some 77)), (1, .inl x1), (2, .inl x2), (3, .inl x3), (4, .inl x4)] [.inl y0] I Q := by
  exact wseg_sound pr_ok (cut := [(55, [0, 1, 2, 3, 4]), (89, [0, 1, 2, 3, 4, 5]), (147, [])]) ok_126 400 true 55 _ _ _ h
set_option maxRecDepth 20000 in
theorem t126_89 {Q : Post} (I : Mem) (x1 : Int) (x2 : Int) (x3 : Int) (x4 : Int) (x5 : Int) (y0 : Int) (y1 : Int) (h : inb y1 (60) ∧ (let J1 := upd2 I 95 (y1).toNat y0; (¬ x5 = 0 → (R 126 147 [] [.inl 1, .inl x1, .inr (some 96)] J1 Q)) ∧
 (¬ (¬ x5 = 0) → (inb x2 (60) ∧ (((J1 96 (x2).toNat) = 0 → (R 126 147 [] [.inl 0, .inl x1, .inr (some 96)] J1 Q)) ∧
  (¬ ((J1 96 (x2).toNat) = 0) → ((¬ x4 = 63 → ((x4 = 58 → ((¬ x3 = 1 → (R 126 147 [] [.inl 0, .inl x1, .inr (some 96)] J1 Q)) ∧
     (¬ (¬ x3 = 1) → (R 126 147 [] [.inl 1, .inl x1, .inr (some 96)] J1 Q)))) ∧
    (¬ (x4 = 58) → ((¬ x4 = 64 → (R 126 147 [] [.inl 0, .inl x1, .inr (some 96)] J1 Q)) ∧
     (¬ (¬ x4 = 64) → ((¬ x3 = 1 → (R 126 147 [] [.inl 0, .inl x1, .inr (some 96)] J1 Q)) ∧
      (¬ (¬ x3 = 1) → (R 126 147 [] [.inl 1, .inl x1, .inr (some 96)] J1 Q)))))))) ∧
   (¬ (¬ x4 = 63) → ((x3 ≤ 0 → (R 126 147 [] [.inl 0, .inl x1, .inr (some 96)] J1 Q)) ∧
    (¬ (x3 ≤ 0) → (R 126 147 [] [.inl 1, .inl x1, .inr (some 96)] J1 Q))))))))))) : R 126 89 [(0, .inr (some 77)), (1, .inl x1), (2, .inl x2), (3, .inl x3), (4, .inl x4), (5, .inl x5)] [.inl y0, .inl y1, .inr (some 95)] I Q := by
  exact wseg_sound pr_ok (cut := [(55, [0, 1, 2, 3, 4]), (89, [0, 1, 2, 3, 4, 5]), (147, [])]) ok_126 400 true 89 _ _ _ h
set_option maxRecDepth 20000 in
theorem t126_147 {Q : Post} (I : Mem) (y0 : Int) (y1 : Int) (h : inb y1 (60) ∧ isB y0 ∧ (let J1 := upd2 I 96 (y1).toNat y0; Q none J1)) : R 126 147 [] [.inl y0, .inl y1, .inr (some 96)] I Q := by
  exact wseg_sound pr_ok (cut := [(55, [0, 1, 2, 3, 4]), (89, [0, 1, 2, 3, 4, 5]), (147, [])]) ok_126 400 true 147 _ _ _ h
set_option maxRecDepth 20000 in
theorem t127_0 {Q : Post} (I : Mem) (h : let J1 := upd2 I 77 20 0; R 127 9 [(0, .inr (some 77)), (1, .inl 0), (2, .inl 0)] [] J1 Q) : R 127 0 [(0, .inr (some 77))] [] I Q := by
  exact wseg_sound pr_ok (cut := [(9, [0, 1, 2]), (138, [0, 1, 2])]) ok_127 400 true 0 _ _ _ h
set_option maxRecDepth 20000 in
theorem t127_9 {Q : Post} (I : Mem) (x1 : Int) (x2 : Int) (h : inb 60 (63) ∧ (((I 79 (60 : Int).toNat) ≤ x2 → (R 133 0 [(0, .inr (some 77))] [] I (fun r1 I1 => r1 = none ∧ (Q none I1)))) ∧
 (¬ ((I 79 (60 : Int).toNat) ≤ x2) → (let J2 := upd2 I 77 20 (wrap ((I 77 20) + 1)); inb (I 77 20) (60) ∧ (let J3 := upd2 J2 89 (I 77 20).toNat x2; inb (I 77 20) (60) ∧ (let J4 := upd2 J3 92 (I 77 20).toNat (-9); inb (I 77 20) (60) ∧ (let J5 := upd2 J4 93 (I 77 20).toNat 0; inb (I 77 20) (60) ∧ (let J6 := upd2 J5 95 (I 77 20).toNat 0; inb (I 77 20) (60) ∧ isB 1 ∧ (let J7 := upd2 J6 96 (I 77 20).toNat 1; (x1 ≤ 0 → (inb x1 (60) ∧ (let J8 := upd2 J7 97 (x1).toNat (I 77 20); inb x1 (60) ∧ (let J9 := upd2 J8 98 (x1).toNat 0; mletP J9 (I 77 20) ∧ (R 127 138 [(0, .inr (some 77)), (1, .inl (wrap (x1 + 1))), (2, .inl (wrap (x2 + (wrap (1 + ((hds (mlet J9 (I 77 20)) - 1 : Nat) : Int))))))] [] J9 Q))))) ∧
  (¬ (x1 ≤ 0) → (inb (wrap (x1 - 1)) (60) ∧ (inb (wrap (x1 - 1)) (60) ∧ (R 126 0 [(0, .inr (some 77)), (1, .inl (I 77 20)), (2, .inl (J7 97 (wrap (x1 - 1)).toNat)), (3, .inl (J7 98 (wrap (x1 - 1)).toNat))] [] J7 (fun r10 I10 => r10 = none ∧ (inb (wrap (x1 - 1)) (60) ∧ (inb (wrap (x1 - 1)) (60) ∧ (let J11 := upd2 I10 98 (wrap (x1 - 1)).toNat (wrap ((I10 98 (wrap (x1 - 1)).toNat) + 1)); inb x1 (60) ∧ (let J12 := upd2 J11 97 (x1).toNat (I 77 20); inb x1 (60) ∧ (let J13 := upd2 J12 98 (x1).toNat 0; mletP J13 (I 77 20) ∧ (R 127 138 [(0, .inr (some 77)), (1, .inl (wrap (x1 + 1))), (2, .inl (wrap (x2 + (wrap (1 + ((hds (mlet J13 (I 77 20)) - 1 : Nat) : Int))))))] [] J13 Q)))))))))))))))))))) : R 127 9 [(0, .inr (some 77)), (1, .inl x1), (2, .inl x2)] [] I Q := by
  exact wseg_sound pr_ok (cut := [(9, [0, 1, 2]), (138, [0, 1, 2])]) ok_127 400 true 9 _ _ _ h
set_option maxRecDepth 20000 in
theorem t127_138 {Q : Post} (I : Mem) (x1 : Int) (x2 : Int) (h : (x1 ≤ 0 → (R 127 9 [(0, .inr (some 77)), (1, .inl x1), (2, .inl x2)] [] I Q)) ∧
 (¬ (x1 ≤ 0) → (inb (wrap (x1 - 1)) (60) ∧ (inb (wrap (x1 - 1)) (60) ∧ (mletP I (I 97 (wrap (x1 - 1)).toNat) ∧ ((¬ (I 98 (wrap (x1 - 1)).toNat) = ((pts (mlet I (I 97 (wrap (x1 - 1)).toNat)) : Nat) : Int) → (R 127 9 [(0, .inr (some 77)), (1, .inl x1), (2, .inl x2)] [] I Q)) ∧
  (¬ (¬ (I 98 (wrap (x1 - 1)).toNat) = ((pts (mlet I (I 97 (wrap (x1 - 1)).toNat)) : Nat) : Int)) → (inb (wrap (x1 + (-1))) (60) ∧ (inb (I 97 (wrap (x1 + (-1))).toNat) (60) ∧ (let J1 := upd2 I 90 (I 97 (wrap (x1 + (-1))).toNat).toNat x2; inb (wrap (x1 + (-1))) (60) ∧ (inb (wrap (x1 + (-1))) (60) ∧ (inb (J1 97 (wrap (x1 + (-1))).toNat) (60) ∧ (let J2 := upd2 J1 91 (J1 97 (wrap (x1 + (-1))).toNat).toNat (wrap ((J1 77 20) - (J1 97 (wrap (x1 + (-1))).toNat))); R 127 138 [(0, .inr (some 77)), (1, .inl (wrap (x1 + (-1)))), (2, .inl x2)] [] J2 Q))))))))))))) : R 127 138 [(0, .inr (some 77)), (1, .inl x1), (2, .inl x2)] [] I Q := by
  exact wseg_sound pr_ok (cut := [(9, [0, 1, 2]), (138, [0, 1, 2])]) ok_127 400 true 138 _ _ _ h
set_option maxRecDepth 20000 in
theorem t131_0 {Q : Post} (I : Mem) (x1 : Int) (h : R 131 5 [(0, .inr (some 77)), (1, .inl x1), (2, .inl (-9)), (3, .inl 0)] [] I Q) : R 131 0 [(0, .inr (some 77)), (1, .inl x1)] [] I Q := by
  exact wseg_sound pr_ok (cut := [(5, [0, 1, 2, 3])]) ok_131 400 true 0 _ _ _ h
set_option maxRecDepth 20000 in
theorem t131_5 {Q : Post} (I : Mem) (x1 : Int) (x2 : Int) (x3 : Int) (h : ((I 77 20) ≤ x3 → (Q (some (.inl x2)) I)) ∧
 (¬ ((I 77 20) ≤ x3) → (mletP I x3 ∧ ((¬ (mlet I x3) = 64 → (R 131 5 [(0, .inr (some 77)), (1, .inl x1), (2, .inl x2), (3, .inl (wrap (x3 + 1)))] [] I Q)) ∧
  (¬ (¬ (mlet I x3) = 64) → (mfunP I x3 ∧ ((¬ (mfun I x3) = x1 → (R 131 5 [(0, .inr (some 77)), (1, .inl x1), (2, .inl x2), (3, .inl (wrap (x3 + 1)))] [] I Q)) ∧
   (¬ (¬ (mfun I x3) = x1) → (R 131 5 [(0, .inr (some 77)), (1, .inl x1), (2, .inl x3), (3, .inl (wrap (x3 + 1)))] [] I Q))))))))) : R 131 5 [(0, .inr (some 77)), (1, .inl x1), (2, .inl x2), (3, .inl x3)] [] I Q := by
  exact wseg_sound pr_ok (cut := [(5, [0, 1, 2, 3])]) ok_131 400 true 5 _ _ _ h
set_option maxRecDepth 20000 in
theorem t132_0 {Q : Post} (I : Mem) (x1 : Int) (h : mfunP I x1 ∧ (inb x1 (60) ∧ ((¬ (I 96 (x1).toNat) = 0 → (inb x1 (60) ∧ ((¬ (I 95 (x1).toNat) = 0 → (inb x1 (60) ∧ (inb (wrap ((I 95 (x1).toNat) - 65)) (6) ∧ (R 132 50 [(0, .inr (some 77)), (2, .inl (wrap ((mfun I x1) - 65)))] [.inl (I 99 (wrap ((I 95 (x1).toNat) - 65)).toNat)] I Q)))) ∧
  (¬ (¬ (I 95 (x1).toNat) = 0) → (R 132 50 [(0, .inr (some 77)), (2, .inl (wrap ((mfun I x1) - 65)))] [.inl (-13)] I Q))))) ∧
 (¬ (¬ (I 96 (x1).toNat) = 0) → (R 132 50 [(0, .inr (some 77)), (2, .inl (wrap ((mfun I x1) - 65)))] [.inl x1] I Q))))) : R 132 0 [(0, .inr (some 77)), (1, .inl x1)] [] I Q := by
  exact wseg_sound pr_ok (cut := [(50, [0, 2])]) ok_132 400 true 0 _ _ _ h
set_option maxRecDepth 20000 in
theorem t132_50 {Q : Post} (I : Mem) (x2 : Int) (y0 : Int) (h : (y0 = (-11) → (RetB 0 I Q)) ∧
 (¬ (y0 = (-11)) → (inb x2 (6) ∧ ((y0 = (I 99 (x2).toNat) → (RetB 0 I Q)) ∧
  (¬ (y0 = (I 99 (x2).toNat)) → (inb x2 (6) ∧ ((¬ (I 99 (x2).toNat) = (-12) → (inb x2 (6) ∧ ((¬ (I 99 (x2).toNat) = (-11) → (inb x2 (6) ∧ (let J1 := upd2 I 99 (x2).toNat (-12); RetB 1 J1 Q))) ∧
    (¬ (¬ (I 99 (x2).toNat) = (-11)) → (inb x2 (6) ∧ (let J2 := upd2 I 99 (x2).toNat y0; RetB 1 J2 Q)))))) ∧
   (¬ (¬ (I 99 (x2).toNat) = (-12)) → (RetB 0 I Q))))))))) : R 132 50 [(0, .inr (some 77)), (2, .inl x2)] [.inl y0] I Q := by
  exact wseg_sound pr_ok (cut := [(50, [0, 2])]) ok_132 400 true 50 _ _ _ h
set_option maxRecDepth 20000 in
theorem t133_0 {Q : Post} (I : Mem) (h : R 133 2 [(0, .inr (some 77)), (1, .inl 0)] [] I Q) : R 133 0 [(0, .inr (some 77))] [] I Q := by
  exact wseg_sound pr_ok (cut := [(2, [0, 1]), (24, [0, 1]), (32, [0, 1, 2])]) ok_133 400 true 0 _ _ _ h
set_option maxRecDepth 20000 in
theorem t133_2 {Q : Post} (I : Mem) (x1 : Int) (h : (6 ≤ x1 → (R 133 24 [(0, .inr (some 77)), (1, .inl 1)] [] I Q)) ∧
 (¬ (6 ≤ x1) → (inb x1 (6) ∧ (let J1 := upd2 I 99 (x1).toNat (-11); R 133 2 [(0, .inr (some 77)), (1, .inl (wrap (x1 + 1)))] [] J1 Q)))) : R 133 2 [(0, .inr (some 77)), (1, .inl x1)] [] I Q := by
  exact wseg_sound pr_ok (cut := [(2, [0, 1]), (24, [0, 1]), (32, [0, 1, 2])]) ok_133 400 true 2 _ _ _ h
set_option maxRecDepth 20000 in
theorem t133_24 {Q : Post} (I : Mem) (x1 : Int) (h : (x1 = 0 → (Q none I)) ∧
 (¬ (x1 = 0) → (R 133 32 [(0, .inr (some 77)), (1, .inl 0), (2, .inl 0)] [] I Q))) : R 133 24 [(0, .inr (some 77)), (1, .inl x1)] [] I Q := by
  exact wseg_sound pr_ok (cut := [(2, [0, 1]), (24, [0, 1]), (32, [0, 1, 2])]) ok_133 400 true 24 _ _ _ h
set_option maxRecDepth 20000 in
theorem t133_32 {Q : Post} (I : Mem) (x1 : Int) (x2 : Int) (h : ((I 77 20) ≤ x2 → (R 133 24 [(0, .inr (some 77)), (1, .inl x1)] [] I Q)) ∧
 (¬ ((I 77 20) ≤ x2) → (mletP I x2 ∧ (((b2i (decide (mlet I x2 = 33))) = 0 → (R 133 32 [(0, .inr (some 77)), (1, .inl x1), (2, .inl (wrap (x2 + 1)))] [] I Q)) ∧
  (¬ ((b2i (decide (mlet I x2 = 33))) = 0) → (R 132 0 [(0, .inr (some 77)), (1, .inl x2)] [] I (fun r1 I1 => ∃ v1, r1 = some (.inl v1) ∧ ((v1 = 0 → (R 133 32 [(0, .inr (some 77)), (1, .inl x1), (2, .inl (wrap (x2 + 1)))] [] I1 Q)) ∧
   (¬ (v1 = 0) → (R 133 32 [(0, .inr (some 77)), (1, .inl 1), (2, .inl (wrap (x2 + 1)))] [] I1 Q)))))))))) : R 133 32 [(0, .inr (some 77)), (1, .inl x1), (2, .inl x2)] [] I Q := by
  exact wseg_sound pr_ok (cut := [(2, [0, 1]), (24, [0, 1]), (32, [0, 1, 2])]) ok_133 400 true 32 _ _ _ h
