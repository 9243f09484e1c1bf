set_option maxRecDepth 20000 in
theorem t40_0 {Q : Post} (I : Mem) (x2 : Int) (h : let J1 := upd2 I 2 1 0; let J2 := upd2 J1 2 5 0; let J3 := upd2 J2 2 6 0; let J4 := upd2 J3 2 7 0; let J5 := upd2 J4 2 8 0; let J6 := upd2 J5 2 9 0; R 40 32 [(0, .inr (some 2)), (1, .inr (some 1)), (2, .inl x2), (3, .inl 0)] [] J6 Q) : R 40 0 [(0, .inr (some 2)), (1, .inr (some 1)), (2, .inl x2)] [] I Q := by
  exact wseg_sound pr_ok (cut := [(32, [0, 1, 2, 3])]) ok_40 400 true 0 _ _ _ h
set_option maxRecDepth 20000 in
theorem t40_32 {Q : Post} (I : Mem) (x2 : Int) (x3 : Int) (h : (x2 ≤ x3 → ((¬ (I 2 6) = 5 → (Q (some (.inl x2)) I)) ∧
  (¬ (¬ (I 2 6) = 5) → (Q (some (.inl (-1))) I)))) ∧
 (¬ (x2 ≤ x3) → ((¬ (rd I 1 x3) = 32 → (R 41 0 [(0, .inr (some 2)), (1, .inl (rd I 1 x3))] [] I (fun r1 I1 => ∃ v1, r1 = some (.inl v1) ∧ ((¬ v1 = 0 → (let J2 := wr I1 3 (I1 2 1) (rd I 1 x3); let J3 := upd2 J2 2 1 (wrap ((J2 2 1) + 1)); R 40 32 [(0, .inr (some 2)), (1, .inr (some 1)), (2, .inl x2), (3, .inl (wrap (x3 + 1)))] [] J3 Q)) ∧
   (¬ (¬ v1 = 0) → (Q (some (.inl x3)) I1)))))) ∧
  (¬ (¬ (rd I 1 x3) = 32) → (R 40 32 [(0, .inr (some 2)), (1, .inr (some 1)), (2, .inl x2), (3, .inl (wrap (x3 + 1)))] [] I Q))))) : R 40 32 [(0, .inr (some 2)), (1, .inr (some 1)), (2, .inl x2), (3, .inl x3)] [] I Q := by
  exact wseg_sound pr_ok (cut := [(32, [0, 1, 2, 3])]) ok_40 400 true 32 _ _ _ h
set_option maxRecDepth 20000 in
theorem t41_0 {Q : Post} (I : Mem) (x1 : Int) (h : (((I 2 6) = 0 → (R 42 0 [(0, .inr (some 2)), (1, .inl x1)] [] I (fun r5 I5 => ∃ v5, r5 = some (.inl v5) ∧ (RetB v5 I5 Q)))) ∧
 (¬ (I 2 6) = 0 → (((I 2 6) = 1 → (R 43 0 [(0, .inr (some 2)), (1, .inl x1)] [] I (fun r4 I4 => ∃ v4, r4 = some (.inl v4) ∧ (RetB v4 I4 Q)))) ∧
 (¬ (I 2 6) = 1 → (((I 2 6) = 2 → (R 44 0 [(0, .inr (some 2)), (1, .inl x1)] [] I (fun r3 I3 => ∃ v3, r3 = some (.inl v3) ∧ (RetB v3 I3 Q)))) ∧
 (¬ (I 2 6) = 2 → (((I 2 6) = 3 → (R 45 0 [(0, .inr (some 2)), (1, .inl x1)] [] I (fun r2 I2 => ∃ v2, r2 = some (.inl v2) ∧ (RetB v2 I2 Q)))) ∧
 (¬ (I 2 6) = 3 → (((I 2 6) = 4 → (R 46 0 [(0, .inr (some 2)), (1, .inl x1)] [] I (fun r1 I1 => ∃ v1, r1 = some (.inl v1) ∧ (RetB v1 I1 Q)))) ∧
 (¬ (I 2 6) = 4 → (RetB 0 I Q)))))))))))) : R 41 0 [(0, .inr (some 2)), (1, .inl x1)] [] I Q := by
  exact wseg_sound pr_ok (cut := []) ok_41 400 true 0 _ _ _ h
set_option maxRecDepth 20000 in
theorem t42_0 {Q : Post} (I : Mem) (x1 : Int) (h : (¬ (b2i (isDig x1)) = 0 → (R 50 0 [(0, .inr (some 2))] [] I (fun r1 I1 => r1 = none ∧ (RetB 1 I1 Q)))) ∧
 (¬ (¬ (b2i (isDig x1)) = 0) → ((¬ (b2i (isInp x1)) = 0 → (R 50 0 [(0, .inr (some 2))] [] I (fun r2 I2 => r2 = none ∧ (RetB 1 I2 Q)))) ∧
  (¬ (¬ (b2i (isInp x1)) = 0) → (((b2i (isVal x1)) = 0 → ((¬ (b2i (isOpr x1)) = 0 → (R 49 0 [(0, .inr (some 2)), (1, .inl ((pts x1 : Nat) : Int)), (2, .inl 0), (3, .inl 0)] [] I (fun r3 I3 => r3 = none ∧ (RetB 1 I3 Q)))) ∧
    (¬ (¬ (b2i (isOpr x1)) = 0) → ((¬ x1 = 63 → ((¬ x1 = 58 → ((¬ x1 = 64 → ((¬ x1 = 33 → (RetB 0 I Q)) ∧
        (¬ (¬ x1 = 33) → (let J4 := upd2 I 2 6 4; RetB 1 J4 Q)))) ∧
       (¬ (¬ x1 = 64) → (let J5 := upd2 I 2 6 2; RetB 1 J5 Q)))) ∧
      (¬ (¬ x1 = 58) → (let J6 := upd2 I 2 6 1; RetB 1 J6 Q)))) ∧
     (¬ (¬ x1 = 63) → (R 49 0 [(0, .inr (some 2)), (1, .inl ((pts x1 : Nat) : Int)), (2, .inl 0), (3, .inl 0)] [] I (fun r7 I7 => r7 = none ∧ (RetB 1 I7 Q)))))))) ∧
   (¬ ((b2i (isVal x1)) = 0) → (((b2i (!(decide (iand (I 2 7) (bitc x1) = 0)))) = 0 → ((¬ (b2i (isOpr x1)) = 0 → (R 49 0 [(0, .inr (some 2)), (1, .inl ((pts x1 : Nat) : Int)), (2, .inl 0), (3, .inl 0)] [] I (fun r8 I8 => r8 = none ∧ (RetB 1 I8 Q)))) ∧
     (¬ (¬ (b2i (isOpr x1)) = 0) → ((¬ x1 = 63 → ((¬ x1 = 58 → ((¬ x1 = 64 → ((¬ x1 = 33 → (RetB 0 I Q)) ∧
         (¬ (¬ x1 = 33) → (let J9 := upd2 I 2 6 4; RetB 1 J9 Q)))) ∧
        (¬ (¬ x1 = 64) → (let J10 := upd2 I 2 6 2; RetB 1 J10 Q)))) ∧
       (¬ (¬ x1 = 58) → (let J11 := upd2 I 2 6 1; RetB 1 J11 Q)))) ∧
      (¬ (¬ x1 = 63) → (R 49 0 [(0, .inr (some 2)), (1, .inl ((pts x1 : Nat) : Int)), (2, .inl 0), (3, .inl 0)] [] I (fun r12 I12 => r12 = none ∧ (RetB 1 I12 Q)))))))) ∧
    (¬ ((b2i (!(decide (iand (I 2 7) (bitc x1) = 0)))) = 0) → (R 50 0 [(0, .inr (some 2))] [] I (fun r13 I13 => r13 = none ∧ (RetB 1 I13 Q))))))))))) : R 42 0 [(0, .inr (some 2)), (1, .inl x1)] [] I Q := by
  exact wseg_sound pr_ok (cut := []) ok_42 400 true 0 _ _ _ h
set_option maxRecDepth 20000 in
theorem t43_0 {Q : Post} (I : Mem) (x1 : Int) (h : ((b2i (isVal x1)) = 0 → (RetB 0 I Q)) ∧
 (¬ ((b2i (isVal x1)) = 0) → (R 48 0 [(0, .inr (some 2)), (1, .inl x1)] [] I (fun r1 I1 => ∃ v1, r1 = some (.inl v1) ∧ ((¬ v1 = 0 → (R 49 0 [(0, .inr (some 2)), (1, .inl 2), (2, .inl 0), (3, .inl (bitc x1))] [] I1 (fun r2 I2 => r2 = none ∧ (RetB 1 I2 Q)))) ∧
  (¬ (¬ v1 = 0) → (RetB 0 I1 Q))))))) : R 43 0 [(0, .inr (some 2)), (1, .inl x1)] [] I Q := by
  exact wseg_sound pr_ok (cut := []) ok_43 400 true 0 _ _ _ h
set_option maxRecDepth 20000 in
theorem t44_0 {Q : Post} (I : Mem) (x1 : Int) (h : ((b2i (isFun x1)) = 0 → (RetB 0 I Q)) ∧
 (¬ ((b2i (isFun x1)) = 0) → (R 48 0 [(0, .inr (some 2)), (1, .inl x1)] [] I (fun r1 I1 => ∃ v1, r1 = some (.inl v1) ∧ ((¬ v1 = 0 → (let J2 := upd2 I1 2 9 (bitc x1); let J3 := upd2 J2 2 6 3; RetB 1 J3 Q)) ∧
  (¬ (¬ v1 = 0) → (RetB 0 I1 Q))))))) : R 44 0 [(0, .inr (some 2)), (1, .inl x1)] [] I Q := by
  exact wseg_sound pr_ok (cut := []) ok_44 400 true 0 _ _ _ h
set_option maxRecDepth 20000 in
theorem t45_0 {Q : Post} (I : Mem) (x1 : Int) (h : ((b2i (isVal x1)) = 0 → (RetB 0 I Q)) ∧
 (¬ ((b2i (isVal x1)) = 0) → (R 48 0 [(0, .inr (some 2)), (1, .inl x1)] [] I (fun r1 I1 => ∃ v1, r1 = some (.inl v1) ∧ ((¬ v1 = 0 → (R 49 0 [(0, .inr (some 2)), (1, .inl 2), (2, .inl (ior (I1 2 9) (bitc x1))), (3, .inl (I1 2 9))] [] I1 (fun r2 I2 => r2 = none ∧ (RetB 1 I2 Q)))) ∧
  (¬ (¬ v1 = 0) → (RetB 0 I1 Q))))))) : R 45 0 [(0, .inr (some 2)), (1, .inl x1)] [] I Q := by
  exact wseg_sound pr_ok (cut := []) ok_45 400 true 0 _ _ _ h
set_option maxRecDepth 20000 in
theorem t46_0 {Q : Post} (I : Mem) (x1 : Int) (h : ((b2i (isFun x1)) = 0 → (RetB 0 I Q)) ∧
 (¬ ((b2i (isFun x1)) = 0) → ((¬ (b2i (!(decide (iand (I 2 7) (bitc x1) = 0)))) = 0 → (R 49 0 [(0, .inr (some 2)), (1, .inl 1), (2, .inl 0), (3, .inl 0)] [] I (fun r1 I1 => r1 = none ∧ (RetB 1 I1 Q)))) ∧
  (¬ (¬ (b2i (!(decide (iand (I 2 7) (bitc x1) = 0)))) = 0) → (RetB 0 I Q))))) : R 46 0 [(0, .inr (some 2)), (1, .inl x1)] [] I Q := by
  exact wseg_sound pr_ok (cut := []) ok_46 400 true 0 _ _ _ h
set_option maxRecDepth 20000 in
theorem t48_0 {Q : Post} (I : Mem) (x1 : Int) (h : (¬ (iand (I 2 8) (bitc x1)) = 0 → (let J1 := upd2 I 2 8 (ior (I 2 8) (bitc x1)); RetB 0 J1 Q)) ∧
 (¬ (¬ (iand (I 2 8) (bitc x1)) = 0) → (let J2 := upd2 I 2 8 (ior (I 2 8) (bitc x1)); RetB 1 J2 Q))) : R 48 0 [(0, .inr (some 2)), (1, .inl x1)] [] I Q := by
  exact wseg_sound pr_ok (cut := []) ok_48 400 true 0 _ _ _ h
set_option maxRecDepth 20000 in
theorem t49_0 {Q : Post} (I : Mem) (x1 : Int) (x2 : Int) (x3 : Int) (h : let J1 := wr I 4 (I 2 5) x1; let J2 := wr J1 5 (J1 2 5) x2; let J3 := wr J2 6 (J2 2 5) x3; let J4 := upd2 J3 2 5 (wrap ((J3 2 5) + 1)); let J5 := upd2 J4 2 7 (ior (J4 2 7) x2); let J6 := upd2 J5 2 6 0; Q none J6) : R 49 0 [(0, .inr (some 2)), (1, .inl x1), (2, .inl x2), (3, .inl x3)] [] I Q := by
  exact wseg_sound pr_ok (cut := []) ok_49 400 true 0 _ _ _ h
set_option maxRecDepth 20000 in
theorem t50_0 {Q : Post} (I : Mem) (h : R 50 2 [(0, .inr (some 2)), (1, .inl 0)] [] I Q) : R 50 0 [(0, .inr (some 2))] [] I Q := by
  exact wseg_sound pr_ok (cut := [(2, [0, 1])]) ok_50 400 true 0 _ _ _ h
set_option maxRecDepth 20000 in
theorem t50_2 {Q : Post} (I : Mem) (x1 : Int) (h : (60 ≤ x1 → (let J1 := upd2 I 2 6 5; Q none J1)) ∧
 (¬ (60 ≤ x1) → (((I 2 5) ≤ 0 → (let J2 := upd2 I 2 6 5; Q none J2)) ∧
  (¬ ((I 2 5) ≤ 0) → (let J3 := wr I 4 (wrap ((I 2 5) - 1)) (wrap ((rd I 4 (wrap ((I 2 5) - 1))) - 1)); ((wrap ((rd I 4 (wrap ((I 2 5) - 1))) - 1)) ≤ 0 → (let J4 := upd2 J3 2 7 (iand (J3 2 7) (ixor (rd J3 6 (wrap ((I 2 5) - 1))) (-1))); let J5 := upd2 J4 2 5 (wrap ((J4 2 5) - 1)); R 50 2 [(0, .inr (some 2)), (1, .inl (wrap (x1 + 1)))] [] J5 Q)) ∧
   (¬ ((wrap ((rd I 4 (wrap ((I 2 5) - 1))) - 1)) ≤ 0) → (let J6 := upd2 J3 2 7 (ior (iand (J3 2 7) (ixor (rd J3 5 (wrap ((I 2 5) - 1))) (-1))) (rd J3 6 (wrap ((I 2 5) - 1)))); let J7 := upd2 J6 2 6 0; Q none J7))))))) : R 50 2 [(0, .inr (some 2)), (1, .inl x1)] [] I Q := by
  exact wseg_sound pr_ok (cut := [(2, [0, 1])]) ok_50 400 true 2 _ _ _ h
set_option maxRecDepth 20000 in
theorem t51_0 {Q : Post} (sg : Nat) (hs : sg = 8 ∨ sg = 39) (I : Mem) (x2 : Int) (h : let J1 := upd2 I 37 1 (min x2 60); R 51 12 [(0, .inr (some 37)), (1, .inr (some sg)), (3, .inl 0)] [] J1 Q) : R 51 0 [(0, .inr (some 37)), (1, .inr (some sg)), (2, .inl x2)] [] I Q := by
  rcases hs with rfl | rfl <;> exact wseg_sound pr_ok (cut := [(12, [0, 1, 3])]) ok_51 400 true 0 _ _ _ h
set_option maxRecDepth 20000 in
theorem t51_12 {Q : Post} (sg : Nat) (hs : sg = 8 ∨ sg = 39) (I : Mem) (x3 : Int) (h : ((I 37 1) ≤ x3 → (R 67 0 [(0, .inr (some 40)), (1, .inr (some 38)), (2, .inl (I 37 1))] [] I (fun r1 I1 => r1 = none ∧ (Q none I1)))) ∧
 (¬ ((I 37 1) ≤ x3) → (let J2 := wr I 38 x3 (rd I sg x3); R 51 12 [(0, .inr (some 37)), (1, .inr (some sg)), (3, .inl (wrap (x3 + 1)))] [] J2 Q))) : R 51 12 [(0, .inr (some 37)), (1, .inr (some sg)), (3, .inl x3)] [] I Q := by
  rcases hs with rfl | rfl <;> exact wseg_sound pr_ok (cut := [(12, [0, 1, 3])]) ok_51 400 true 12 _ _ _ h
set_option maxRecDepth 20000 in
theorem t52_0 {Q : Post} (I : Mem) (x1 : Int) (h : R 52 4 [(0, .inr (some 37)), (1, .inl x1), (2, .inl 0), (3, .inl 0)] [] I Q) : R 52 0 [(0, .inr (some 37)), (1, .inl x1)] [] I Q := by
  exact wseg_sound pr_ok (cut := [(4, [0, 1, 2, 3])]) ok_52 400 true 0 _ _ _ h
set_option maxRecDepth 20000 in
theorem t52_4 {Q : Post} (I : Mem) (x1 : Int) (x2 : Int) (x3 : Int) (h : (x1 ≤ x3 → (Q (some (.inl x2)) I)) ∧
 (¬ (x1 ≤ x3) → (R 53 0 [(0, .inr (some 37))] [] I (fun r1 I1 => ∃ v1, r1 = some (.inl v1) ∧ ((v1 = 0 → (Q (some (.inl x2)) I1)) ∧
  (¬ (v1 = 0) → (R 58 0 [(0, .inr (some 37))] [] I1 (fun r2 I2 => r2 = none ∧ (R 51 0 [(0, .inr (some 37)), (1, .inr (some 39)), (2, .inl (I2 37 6))] [] I2 (fun r3 I3 => r3 = none ∧ (R 52 4 [(0, .inr (some 37)), (1, .inl x1), (2, .inl (wrap (x2 + 1))), (3, .inl (wrap (x3 + 1)))] [] I3 Q))))))))))) : R 52 4 [(0, .inr (some 37)), (1, .inl x1), (2, .inl x2), (3, .inl x3)] [] I Q := by
  exact wseg_sound pr_ok (cut := [(4, [0, 1, 2, 3])]) ok_52 400 true 4 _ _ _ h
set_option maxRecDepth 20000 in
theorem t53_0 {Q : Post} (I : Mem) (h : R 53 2 [(0, .inr (some 37)), (1, .inl 0)] [] I Q) : R 53 0 [(0, .inr (some 37))] [] I Q := by
  exact wseg_sound pr_ok (cut := [(2, [0, 1])]) ok_53 400 true 0 _ _ _ h
set_option maxRecDepth 20000 in
theorem t53_2 {Q : Post} (I : Mem) (x1 : Int) (h : ((I 40 0) ≤ x1 → (RetB 0 I Q)) ∧
 (¬ ((I 40 0) ≤ x1) → (R 54 0 [(0, .inr (some 37)), (1, .inl x1)] [] I (fun r1 I1 => ∃ v1, r1 = some (.inl v1) ∧ ((v1 ≤ 0 → (R 53 2 [(0, .inr (some 37)), (1, .inl (wrap (x1 + 1)))] [] I1 Q)) ∧
  (¬ (v1 ≤ 0) → (let J2 := upd2 I1 37 3 x1; let J3 := upd2 J2 37 4 v1; RetB 1 J3 Q))))))) : R 53 2 [(0, .inr (some 37)), (1, .inl x1)] [] I Q := by
  exact wseg_sound pr_ok (cut := [(2, [0, 1])]) ok_53 400 true 2 _ _ _ h
set_option maxRecDepth 20000 in
theorem t54_0 {Q : Post} (I : Mem) (x1 : Int) (h : ((b2i (isOpr (rd I 41 x1))) = 0 → ((¬ (rd I 41 x1) = 63 → ((¬ (rd I 41 x1) = 58 → ((¬ (rd I 41 x1) = 64 → (Q (some (.inl 0)) I)) ∧
    (¬ (¬ (rd I 41 x1) = 64) → (R 57 0 [(0, .inr (some 37)), (1, .inl x1)] [] I (fun r1 I1 => ∃ v1, r1 = some (.inl v1) ∧ (Q (some (.inl v1)) I1)))))) ∧
   (¬ (¬ (rd I 41 x1) = 58) → (R 56 0 [(0, .inr (some 37)), (1, .inl x1)] [] I (fun r2 I2 => ∃ v2, r2 = some (.inl v2) ∧ (Q (some (.inl v2)) I2)))))) ∧
  (¬ (¬ (rd I 41 x1) = 63) → (((b2i (isDig (rd I 41 (wrap (x1 + 1))))) = 0 → (Q (some (.inl 0)) I)) ∧
   (¬ ((b2i (isDig (rd I 41 (wrap (x1 + 1))))) = 0) → (Q (some (.inl 2)) I)))))) ∧
 (¬ ((b2i (isOpr (rd I 41 x1))) = 0) → (R 55 0 [(0, .inr (some 37)), (1, .inl x1)] [] I (fun r3 I3 => ∃ v3, r3 = some (.inl v3) ∧ (Q (some (.inl v3)) I3))))) : R 54 0 [(0, .inr (some 37)), (1, .inl x1)] [] I Q := by
  exact wseg_sound pr_ok (cut := []) ok_54 400 true 0 _ _ _ h
set_option maxRecDepth 20000 in
theorem t55_0 {Q : Post} (I : Mem) (x1 : Int) (h : ((b2i (isDig (rd I 41 (wrap (x1 + 1))))) = 0 → (Q (some (.inl 0)) I)) ∧
 (¬ ((b2i (isDig (rd I 41 (wrap (x1 + 1))))) = 0) → ((¬ (b2i (isDig (rd I 41 (wrap (wrap (x1 + 1) + rd I 46 (wrap (x1 + 1))))))) = 0 → (((oper (rd I 41 x1) (wrap ((rd I 41 (wrap (x1 + 1))) - 48)) (wrap ((rd I 41 (wrap (wrap (x1 + 1) + rd I 46 (wrap (x1 + 1))))) - 48))) < 0 → (Q (some (.inl 0)) I)) ∧
   (¬ ((oper (rd I 41 x1) (wrap ((rd I 41 (wrap (x1 + 1))) - 48)) (wrap ((rd I 41 (wrap (wrap (x1 + 1) + rd I 46 (wrap (x1 + 1))))) - 48))) < 0) → ((9 < (oper (rd I 41 x1) (wrap ((rd I 41 (wrap (x1 + 1))) - 48)) (wrap ((rd I 41 (wrap (wrap (x1 + 1) + rd I 46 (wrap (x1 + 1))))) - 48))) → (Q (some (.inl 0)) I)) ∧
    (¬ (9 < (oper (rd I 41 x1) (wrap ((rd I 41 (wrap (x1 + 1))) - 48)) (wrap ((rd I 41 (wrap (wrap (x1 + 1) + rd I 46 (wrap (x1 + 1))))) - 48)))) → (Q (some (.inl 1)) I)))))) ∧
  (¬ (¬ (b2i (isDig (rd I 41 (wrap (wrap (x1 + 1) + rd I 46 (wrap (x1 + 1))))))) = 0) → (Q (some (.inl 0)) I))))) : R 55 0 [(0, .inr (some 37)), (1, .inl x1)] [] I Q := by
  exact wseg_sound pr_ok (cut := []) ok_55 400 true 0 _ _ _ h
set_option maxRecDepth 20000 in
theorem t56_0 {Q : Post} (I : Mem) (x1 : Int) (h : R 74 0 [(0, .inr (some 40)), (1, .inl (wrap (wrap (x1 + 1) + rd I 46 (wrap (x1 + 1))))), (2, .inl (rd I 42 x1))] [] I (fun r1 I1 => ∃ v1, r1 = some (.inl v1) ∧ (R 74 0 [(0, .inr (some 40)), (1, .inl (wrap (x1 + 1))), (2, .inl 33)] [] I1 (fun r2 I2 => ∃ v2, r2 = some (.inl v2) ∧ ((¬ v2 = 0 → (R 56 67 [(3, .inl (rd I 41 (wrap (x1 + 1)))), (4, .inl v1)] [.inl 0] I2 Q)) ∧
 (¬ (¬ v2 = 0) → (R 56 67 [(3, .inl (rd I 41 (wrap (x1 + 1)))), (4, .inl v1)] [.inl 1] I2 Q))))))) : R 56 0 [(0, .inr (some 37)), (1, .inl x1)] [] I Q := by
  exact wseg_sound pr_ok (cut := [(67, [3, 4])]) ok_56 400 true 0 _ _ _ h
set_option maxRecDepth 20000 in
theorem t56_67 {Q : Post} (I : Mem) (x3 : Int) (x4 : Int) (y0 : Int) (h : (¬ x4 = 0 → ((¬ (b2i (isDig x3)) = 0 → (Q (some (.inl 4)) I)) ∧
  (¬ (¬ (b2i (isDig x3)) = 0) → ((¬ (b2i (isVal x3)) = 0 → (Q (some (.inl 4)) I)) ∧
   (¬ (¬ (b2i (isVal x3)) = 0) → (((b2i (isInp x3)) = 0 → ((¬ x4 = 1 → (Q (some (.inl 0)) I)) ∧
     (¬ (¬ x4 = 1) → ((y0 = 0 → (Q (some (.inl 0)) I)) ∧
      (¬ (y0 = 0) → (Q (some (.inl 5)) I)))))) ∧
    (¬ ((b2i (isInp x3)) = 0) → (Q (some (.inl 4)) I)))))))) ∧
 (¬ (¬ x4 = 0) → ((y0 = 0 → ((¬ (b2i (isDig x3)) = 0 → (Q (some (.inl 4)) I)) ∧
   (¬ (¬ (b2i (isDig x3)) = 0) → ((¬ (b2i (isVal x3)) = 0 → (Q (some (.inl 4)) I)) ∧
    (¬ (¬ (b2i (isVal x3)) = 0) → (((b2i (isInp x3)) = 0 → ((¬ x4 = 1 → (Q (some (.inl 0)) I)) ∧
      (¬ (¬ x4 = 1) → ((y0 = 0 → (Q (some (.inl 0)) I)) ∧
       (¬ (y0 = 0) → (Q (some (.inl 5)) I)))))) ∧
     (¬ ((b2i (isInp x3)) = 0) → (Q (some (.inl 4)) I)))))))) ∧
  (¬ (y0 = 0) → (Q (some (.inl 3)) I))))) : R 56 67 [(3, .inl x3), (4, .inl x4)] [.inl y0] I Q := by
  exact wseg_sound pr_ok (cut := [(67, [3, 4])]) ok_56 400 true 67 _ _ _ h
set_option maxRecDepth 20000 in
theorem t57_0 {Q : Post} (I : Mem) (x1 : Int) (h : R 75 0 [(0, .inr (some 40)), (1, .inl (wrap (wrap (x1 + 1) + rd I 46 (wrap (x1 + 1))))), (2, .inl (rd I 42 x1))] [] I (fun r1 I1 => ∃ v1, r1 = some (.inl v1) ∧ ((¬ v1 = 0 → ((¬ v1 = 1 → (Q (some (.inl 0)) I1)) ∧
  (¬ (¬ v1 = 1) → (R 75 0 [(0, .inr (some 40)), (1, .inl (wrap (x1 + 1))), (2, .inl (rd I 42 x1))] [] I1 (fun r2 I2 => ∃ v2, r2 = some (.inl v2) ∧ ((¬ v2 = 0 → (Q (some (.inl 0)) I2)) ∧
   (¬ (¬ v2 = 0) → (Q (some (.inl 7)) I2)))))))) ∧
 (¬ (¬ v1 = 0) → (Q (some (.inl 6)) I1))))) : R 57 0 [(0, .inr (some 37)), (1, .inl x1)] [] I Q := by
  exact wseg_sound pr_ok (cut := []) ok_57 400 true 0 _ _ _ h
set_option maxRecDepth 20000 in
theorem t58_0 {Q : Post} (I : Mem) (h : let J1 := upd2 I 37 6 0; R 65 0 [(0, .inr (some 37)), (1, .inl 0), (2, .inl (rd J1 44 (J1 37 3)))] [] J1 (fun r2 I2 => r2 = none ∧ ((((I2 37 4) = 1 → (R 60 0 [(0, .inr (some 37))] [] I2 (fun r11 I11 => r11 = none ∧ (R 58 119 [(0, .inr (some 37))] [] I11 Q)))) ∧
 (¬ (I2 37 4) = 1 → (((I2 37 4) = 2 → (R 59 0 [(0, .inr (some 37))] [] I2 (fun r9 I9 => ∃ v9, r9 = some (.inl v9) ∧ (R 64 0 [(0, .inr (some 37)), (1, .inl v9)] [] I9 (fun r10 I10 => r10 = none ∧ (R 58 119 [(0, .inr (some 37))] [] I10 Q)))))) ∧
 (¬ (I2 37 4) = 2 → (((I2 37 4) = 3 → (R 64 0 [(0, .inr (some 37)), (1, .inl (wrap (wrap ((I2 37 3) + 1) + rd I2 46 (wrap ((I2 37 3) + 1)))))] [] I2 (fun r8 I8 => r8 = none ∧ (R 58 119 [(0, .inr (some 37))] [] I8 Q)))) ∧
 (¬ (I2 37 4) = 3 → (((I2 37 4) = 4 → (R 61 0 [(0, .inr (some 37))] [] I2 (fun r7 I7 => r7 = none ∧ (R 58 119 [(0, .inr (some 37))] [] I7 Q)))) ∧
 (¬ (I2 37 4) = 4 → (((I2 37 4) = 5 → (R 61 0 [(0, .inr (some 37))] [] I2 (fun r6 I6 => r6 = none ∧ (R 58 119 [(0, .inr (some 37))] [] I6 Q)))) ∧
 (¬ (I2 37 4) = 5 → (((I2 37 4) = 6 → (R 64 0 [(0, .inr (some 37)), (1, .inl (wrap (wrap ((I2 37 3) + 1) + rd I2 46 (wrap ((I2 37 3) + 1)))))] [] I2 (fun r5 I5 => r5 = none ∧ (R 58 119 [(0, .inr (some 37))] [] I5 Q)))) ∧
 (¬ (I2 37 4) = 6 → (((I2 37 4) = 7 → (R 62 0 [(0, .inr (some 37))] [] I2 (fun r4 I4 => r4 = none ∧ (R 58 119 [(0, .inr (some 37))] [] I4 Q)))) ∧
 (¬ (I2 37 4) = 7 → (R 64 0 [(0, .inr (some 37)), (1, .inl (wrap (wrap ((I2 37 3) + 1) + rd I2 46 (wrap ((I2 37 3) + 1)))))] [] I2 (fun r3 I3 => r3 = none ∧ (R 58 119 [(0, .inr (some 37))] [] I3 Q)))))))))))))))))))) : R 58 0 [(0, .inr (some 37))] [] I Q := by
  exact wseg_sound pr_ok (cut := [(119, [0])]) ok_58 400 true 0 _ _ _ h
set_option maxRecDepth 20000 in
theorem t58_119 {Q : Post} (I : Mem) (h : R 65 0 [(0, .inr (some 37)), (1, .inl (rd I 45 (I 37 3))), (2, .inl (I 37 1))] [] I (fun r1 I1 => r1 = none ∧ (Q none I1))) : R 58 119 [(0, .inr (some 37))] [] I Q := by
  exact wseg_sound pr_ok (cut := [(119, [0])]) ok_58 400 true 119 _ _ _ h
set_option maxRecDepth 20000 in
theorem t59_0 {Q : Post} (I : Mem) (h : (¬ (rd I 41 (wrap ((I 37 3) + 1))) = 48 → (((0 : Int) = 0 → (Q (some (.inl (wrap (wrap (wrap ((I 37 3) + 1) + rd I 46 (wrap ((I 37 3) + 1))) + rd I 46 (wrap (wrap ((I 37 3) + 1) + rd I 46 (wrap ((I 37 3) + 1)))))))) I)) ∧
  (¬ ((0 : Int) = 0) → (Q (some (.inl (wrap (wrap ((I 37 3) + 1) + rd I 46 (wrap ((I 37 3) + 1)))))) I)))) ∧
 (¬ (¬ (rd I 41 (wrap ((I 37 3) + 1))) = 48) → (((1 : Int) = 0 → (Q (some (.inl (wrap (wrap (wrap ((I 37 3) + 1) + rd I 46 (wrap ((I 37 3) + 1))) + rd I 46 (wrap (wrap ((I 37 3) + 1) + rd I 46 (wrap ((I 37 3) + 1)))))))) I)) ∧
  (¬ ((1 : Int) = 0) → (Q (some (.inl (wrap (wrap ((I 37 3) + 1) + rd I 46 (wrap ((I 37 3) + 1)))))) I))))) : R 59 0 [(0, .inr (some 37))] [] I Q := by
  exact wseg_sound pr_ok (cut := []) ok_59 400 true 0 _ _ _ h
set_option maxRecDepth 20000 in
theorem t60_0 {Q : Post} (I : Mem) (h : R 66 0 [(0, .inr (some 37)), (1, .inl (wrap (48 + (oper (rd I 41 (I 37 3)) (wrap ((rd I 41 (wrap ((I 37 3) + 1))) - 48)) (wrap ((rd I 41 (wrap (wrap ((I 37 3) + 1) + rd I 46 (wrap ((I 37 3) + 1))))) - 48))))))] [] I (fun r1 I1 => r1 = none ∧ (Q none I1))) : R 60 0 [(0, .inr (some 37))] [] I Q := by
  exact wseg_sound pr_ok (cut := []) ok_60 400 true 0 _ _ _ h
set_option maxRecDepth 20000 in
theorem t61_0 {Q : Post} (I : Mem) (h : R 61 44 [(0, .inr (some 37)), (2, .inl (rd I 42 (I 37 3))), (3, .inl (wrap ((wrap (wrap ((I 37 3) + 1) + rd I 46 (wrap ((I 37 3) + 1)))) + (rd I 46 (wrap (wrap ((I 37 3) + 1) + rd I 46 (wrap ((I 37 3) + 1)))))))), (4, .inl (wrap (wrap ((I 37 3) + 1) + rd I 46 (wrap ((I 37 3) + 1)))))] [] I Q) : R 61 0 [(0, .inr (some 37))] [] I Q := by
  exact wseg_sound pr_ok (cut := [(44, [0, 2, 3, 4])]) ok_61 400 true 0 _ _ _ h
set_option maxRecDepth 20000 in
theorem t61_44 {Q : Post} (I : Mem) (x2 : Int) (x3 : Int) (x4 : Int) (h : (x3 ≤ x4 → (Q none I)) ∧
 (¬ (x3 ≤ x4) → ((¬ (rd I 41 x4) = x2 → (R 65 0 [(0, .inr (some 37)), (1, .inl (rd I 44 x4)), (2, .inl (wrap ((rd I 44 x4) + ((hds (rd I 41 x4) : Nat) : Int))))] [] I (fun r1 I1 => r1 = none ∧ (R 61 44 [(0, .inr (some 37)), (2, .inl x2), (3, .inl x3), (4, .inl (wrap (x4 + 1)))] [] I1 Q)))) ∧
  (¬ (¬ (rd I 41 x4) = x2) → (R 64 0 [(0, .inr (some 37)), (1, .inl (wrap ((I 37 3) + 1)))] [] I (fun r2 I2 => r2 = none ∧ (R 61 44 [(0, .inr (some 37)), (2, .inl x2), (3, .inl x3), (4, .inl (wrap (x4 + 1)))] [] I2 Q))))))) : R 61 44 [(0, .inr (some 37)), (2, .inl x2), (3, .inl x3), (4, .inl x4)] [] I Q := by
  exact wseg_sound pr_ok (cut := [(44, [0, 2, 3, 4])]) ok_61 400 true 44 _ _ _ h
set_option maxRecDepth 20000 in
theorem t62_0 {Q : Post} (I : Mem) (h : R 63 0 [(0, .inr (some 37)), (1, .inl (wrap (wrap ((I 37 3) + 1) + rd I 46 (wrap ((I 37 3) + 1))))), (2, .inl (rd I 42 (I 37 3)))] [] I (fun r1 I1 => ∃ v1, r1 = some (.inl v1) ∧ (R 65 0 [(0, .inr (some 37)), (1, .inl (rd I1 44 (wrap (wrap ((I 37 3) + 1) + rd I 46 (wrap ((I 37 3) + 1)))))), (2, .inl (rd I1 44 v1))] [] I1 (fun r2 I2 => r2 = none ∧ (R 66 0 [(0, .inr (some 37)), (1, .inl 58)] [] I2 (fun r3 I3 => r3 = none ∧ (R 66 0 [(0, .inr (some 37)), (1, .inl (rd I3 43 (I3 37 3)))] [] I3 (fun r4 I4 => r4 = none ∧ (R 64 0 [(0, .inr (some 37)), (1, .inl (wrap (v1 + 1)))] [] I4 (fun r5 I5 => r5 = none ∧ (R 64 0 [(0, .inr (some 37)), (1, .inl (wrap ((I5 37 3) + 1)))] [] I5 (fun r6 I6 => r6 = none ∧ (R 65 0 [(0, .inr (some 37)), (1, .inl (rd I6 45 v1)), (2, .inl (rd I6 45 (wrap (wrap ((I 37 3) + 1) + rd I 46 (wrap ((I 37 3) + 1))))))] [] I6 (fun r7 I7 => r7 = none ∧ (Q none I7))))))))))))))) : R 62 0 [(0, .inr (some 37))] [] I Q := by
  exact wseg_sound pr_ok (cut := []) ok_62 400 true 0 _ _ _ h
set_option maxRecDepth 20000 in
theorem t63_0 {Q : Post} (I : Mem) (x1 : Int) (x2 : Int) (h : R 63 17 [(0, .inr (some 37)), (1, .inl x1), (2, .inl x2), (3, .inl (wrap (x1 + (rd I 46 x1)))), (4, .inl x1)] [] I Q) : R 63 0 [(0, .inr (some 37)), (1, .inl x1), (2, .inl x2)] [] I Q := by
  exact wseg_sound pr_ok (cut := [(17, [0, 1, 2, 3, 4])]) ok_63 400 true 0 _ _ _ h
set_option maxRecDepth 20000 in
theorem t63_17 {Q : Post} (I : Mem) (x1 : Int) (x2 : Int) (x3 : Int) (x4 : Int) (h : (x3 ≤ x4 → (Q (some (.inl x1)) I)) ∧
 (¬ (x3 ≤ x4) → ((¬ (rd I 41 x4) = 33 → (R 63 17 [(0, .inr (some 37)), (1, .inl x1), (2, .inl x2), (3, .inl x3), (4, .inl (wrap (x4 + 1)))] [] I Q)) ∧
  (¬ (¬ (rd I 41 x4) = 33) → ((¬ (rd I 42 x4) = x2 → (R 63 17 [(0, .inr (some 37)), (1, .inl x1), (2, .inl x2), (3, .inl x3), (4, .inl (wrap (x4 + 1)))] [] I Q)) ∧
   (¬ (¬ (rd I 42 x4) = x2) → (Q (some (.inl x4)) I))))))) : R 63 17 [(0, .inr (some 37)), (1, .inl x1), (2, .inl x2), (3, .inl x3), (4, .inl x4)] [] I Q := by
  exact wseg_sound pr_ok (cut := [(17, [0, 1, 2, 3, 4])]) ok_63 400 true 17 _ _ _ h
set_option maxRecDepth 20000 in
theorem t64_0 {Q : Post} (I : Mem) (x1 : Int) (h : R 65 0 [(0, .inr (some 37)), (1, .inl (rd I 44 x1)), (2, .inl (rd I 45 x1))] [] I (fun r1 I1 => r1 = none ∧ (Q none I1))) : R 64 0 [(0, .inr (some 37)), (1, .inl x1)] [] I Q := by
  exact wseg_sound pr_ok (cut := []) ok_64 400 true 0 _ _ _ h
set_option maxRecDepth 20000 in
theorem t65_0 {Q : Post} (I : Mem) (x1 : Int) (x2 : Int) (h : R 65 2 [(0, .inr (some 37)), (2, .inl x2), (3, .inl x1)] [] I Q) : R 65 0 [(0, .inr (some 37)), (1, .inl x1), (2, .inl x2)] [] I Q := by
  exact wseg_sound pr_ok (cut := [(2, [0, 2, 3])]) ok_65 400 true 0 _ _ _ h
set_option maxRecDepth 20000 in
theorem t65_2 {Q : Post} (I : Mem) (x2 : Int) (x3 : Int) (h : (x2 ≤ x3 → (Q none I)) ∧
 (¬ (x2 ≤ x3) → (R 66 0 [(0, .inr (some 37)), (1, .inl (rd I 38 x3))] [] I (fun r1 I1 => r1 = none ∧ (R 65 2 [(0, .inr (some 37)), (2, .inl x2), (3, .inl (wrap (x3 + 1)))] [] I1 Q))))) : R 65 2 [(0, .inr (some 37)), (2, .inl x2), (3, .inl x3)] [] I Q := by
  exact wseg_sound pr_ok (cut := [(2, [0, 2, 3])]) ok_65 400 true 2 _ _ _ h
set_option maxRecDepth 20000 in
theorem t66_0 {Q : Post} (I : Mem) (x1 : Int) (h : ((I 37 6) < 0 → (Q none I)) ∧
 (¬ ((I 37 6) < 0) → ((60 ≤ (I 37 6) → (Q none I)) ∧
  (¬ (60 ≤ (I 37 6)) → (inb (I 37 6) (60) ∧ (let J1 := upd2 I 39 (I 37 6).toNat x1; let J2 := upd2 J1 37 6 (wrap ((J1 37 6) + 1)); Q none J2)))))) : R 66 0 [(0, .inr (some 37)), (1, .inl x1)] [] I Q := by
  exact wseg_sound pr_ok (cut := []) ok_66 400 true 0 _ _ _ h
set_option maxRecDepth 20000 in
theorem t67_0 {Q : Post} (t : Nat) (sg : Nat) (ht : (t = 9 ∧ sg = 8) ∨ (t = 40 ∧ sg = 38)) (I : Mem) (x2 : Int) (h : let J1 := upd2 I t 0 0; R 67 13 [(0, .inr (some t)), (1, .inr (some sg)), (2, .inl x2), (3, .inl (-1)), (4, .inl 0), (5, .inl 0)] [] J1 Q) : R 67 0 [(0, .inr (some t)), (1, .inr (some sg)), (2, .inl x2)] [] I Q := by
  rcases ht with ⟨rfl, rfl⟩ | ⟨rfl, rfl⟩ <;> exact wseg_sound pr_ok (cut := [(13, [0, 1, 2, 3, 4, 5])]) ok_67 400 true 0 _ _ _ h
set_option maxRecDepth 20000 in
theorem t67_13 {Q : Post} (t : Nat) (sg : Nat) (ht : (t = 9 ∧ sg = 8) ∨ (t = 40 ∧ sg = 38)) (I : Mem) (x2 : Int) (x3 : Int) (x4 : Int) (x5 : Int) (h : (60 ≤ x5 → (Q none I)) ∧
 (¬ (60 ≤ x5) → ((x2 ≤ x4 → (Q none I)) ∧
  (¬ (x2 ≤ x4) → (let J1 := upd2 I t 0 (wrap ((I t 0) + 1)); R 68 0 [(0, .inr (some t)), (1, .inl (I t 0)), (2, .inl x3), (3, .inr (some sg)), (4, .inl x4)] [] J1 (fun r2 I2 => r2 = none ∧ (R 69 0 [(0, .inr (some t)), (1, .inl (I t 0)), (2, .inl (wrap (x4 + ((hds (rd I2 sg x4) : Nat) : Int))))] [] I2 (fun r3 I3 => ∃ v3, r3 = some (.inl v3) ∧ (R 67 13 [(0, .inr (some t)), (1, .inr (some sg)), (2, .inl x2), (3, .inl v3), (4, .inl (wrap (x4 + ((hds (rd I2 sg x4) : Nat) : Int)))), (5, .inl (wrap (x5 + 1)))] [] I3 Q))))))))) : R 67 13 [(0, .inr (some t)), (1, .inr (some sg)), (2, .inl x2), (3, .inl x3), (4, .inl x4), (5, .inl x5)] [] I Q := by
  rcases ht with ⟨rfl, rfl⟩ | ⟨rfl, rfl⟩ <;> exact wseg_sound pr_ok (cut := [(13, [0, 1, 2, 3, 4, 5])]) ok_67 400 true 13 _ _ _ h
set_option maxRecDepth 20000 in
theorem t68_0 {Q : Post} (t : Nat) (sg : Nat) (ht : (t = 9 ∧ sg = 8) ∨ (t = 40 ∧ sg = 38)) (I : Mem) (x1 : Int) (x2 : Int) (x4 : Int) (h : let J1 := wr I (t + 1) x1 (rd I sg x4); (((hds (rd I sg x4) : Nat) : Int) ≤ 1 → (let J2 := wr J1 (t + 2) x1 0; (((hds (rd I sg x4) : Nat) : Int) ≤ 2 → (let J3 := wr J2 (t + 3) x1 0; let J4 := wr J3 (t + 4) x1 x4; let J5 := wr J4 (t + 7) x1 x2; let J6 := wr J5 (t + 10) x1 ((pts (rd I sg x4) : Nat) : Int); (0 ≤ x2 → (let J7 := wr J6 (t + 8) x1 (wrap (((pts (rd J6 (t + 1) x2) : Nat) : Int) - (rd J6 (t + 10) x2))); let J8 := wr J7 (t + 9) x1 (wrap ((rd J7 (t + 9) x2) + 1)); Q none J8)) ∧
   (¬ (0 ≤ x2) → (let J9 := wr J6 (t + 8) x1 0; let J10 := wr J9 (t + 9) x1 0; Q none J10)))) ∧
  (¬ (((hds (rd I sg x4) : Nat) : Int) ≤ 2) → (let J11 := wr J2 (t + 3) x1 (rd J2 sg (wrap (x4 + 2))); let J12 := wr J11 (t + 4) x1 x4; let J13 := wr J12 (t + 7) x1 x2; let J14 := wr J13 (t + 10) x1 ((pts (rd I sg x4) : Nat) : Int); (0 ≤ x2 → (let J15 := wr J14 (t + 8) x1 (wrap (((pts (rd J14 (t + 1) x2) : Nat) : Int) - (rd J14 (t + 10) x2))); let J16 := wr J15 (t + 9) x1 (wrap ((rd J15 (t + 9) x2) + 1)); Q none J16)) ∧
   (¬ (0 ≤ x2) → (let J17 := wr J14 (t + 8) x1 0; let J18 := wr J17 (t + 9) x1 0; Q none J18)))))) ∧
 (¬ (((hds (rd I sg x4) : Nat) : Int) ≤ 1) → (let J19 := wr J1 (t + 2) x1 (rd J1 sg (wrap (x4 + 1))); (((hds (rd I sg x4) : Nat) : Int) ≤ 2 → (let J20 := wr J19 (t + 3) x1 0; let J21 := wr J20 (t + 4) x1 x4; let J22 := wr J21 (t + 7) x1 x2; let J23 := wr J22 (t + 10) x1 ((pts (rd I sg x4) : Nat) : Int); (0 ≤ x2 → (let J24 := wr J23 (t + 8) x1 (wrap (((pts (rd J23 (t + 1) x2) : Nat) : Int) - (rd J23 (t + 10) x2))); let J25 := wr J24 (t + 9) x1 (wrap ((rd J24 (t + 9) x2) + 1)); Q none J25)) ∧
   (¬ (0 ≤ x2) → (let J26 := wr J23 (t + 8) x1 0; let J27 := wr J26 (t + 9) x1 0; Q none J27)))) ∧
  (¬ (((hds (rd I sg x4) : Nat) : Int) ≤ 2) → (let J28 := wr J19 (t + 3) x1 (rd J19 sg (wrap (x4 + 2))); let J29 := wr J28 (t + 4) x1 x4; let J30 := wr J29 (t + 7) x1 x2; let J31 := wr J30 (t + 10) x1 ((pts (rd I sg x4) : Nat) : Int); (0 ≤ x2 → (let J32 := wr J31 (t + 8) x1 (wrap (((pts (rd J31 (t + 1) x2) : Nat) : Int) - (rd J31 (t + 10) x2))); let J33 := wr J32 (t + 9) x1 (wrap ((rd J32 (t + 9) x2) + 1)); Q none J33)) ∧
   (¬ (0 ≤ x2) → (let J34 := wr J31 (t + 8) x1 0; let J35 := wr J34 (t + 9) x1 0; Q none J35))))))) : R 68 0 [(0, .inr (some t)), (1, .inl x1), (2, .inl x2), (3, .inr (some sg)), (4, .inl x4)] [] I Q := by
  rcases ht with ⟨rfl, rfl⟩ | ⟨rfl, rfl⟩ <;> exact wseg_sound pr_ok (cut := []) ok_68 400 true 0 _ _ _ h
set_option maxRecDepth 20000 in
theorem t69_0 {Q : Post} (t : Nat) (ht : t = 9 ∨ t = 40) (I : Mem) (x1 : Int) (x2 : Int) (h : R 69 5 [(0, .inr (some t)), (2, .inl x2), (3, .inl x1), (4, .inl 0)] [] I Q) : R 69 0 [(0, .inr (some t)), (1, .inl x1), (2, .inl x2)] [] I Q := by
  rcases ht with rfl | rfl <;> exact wseg_sound pr_ok (cut := [(5, [0, 2, 3, 4])]) ok_69 400 true 0 _ _ _ h
set_option maxRecDepth 20000 in
theorem t69_5 {Q : Post} (t : Nat) (ht : t = 9 ∨ t = 40) (I : Mem) (x2 : Int) (x3 : Int) (x4 : Int) (h : (60 ≤ x4 → (Q (some (.inl x3)) I)) ∧
 (¬ (60 ≤ x4) → ((x3 < 0 → (Q (some (.inl x3)) I)) ∧
  (¬ (x3 < 0) → ((¬ (rd I (t + 10) x3) = 0 → (Q (some (.inl x3)) I)) ∧
   (¬ (¬ (rd I (t + 10) x3) = 0) → (let J1 := wr I (t + 5) x3 x2; let J2 := wr J1 (t + 6) x3 (wrap ((J1 t 0) - x3)); ((rd J2 (t + 7) x3) < 0 → (R 69 5 [(0, .inr (some t)), (2, .inl x2), (3, .inl (rd J2 (t + 7) x3)), (4, .inl (wrap (x4 + 1)))] [] J2 Q)) ∧
    (¬ ((rd J2 (t + 7) x3) < 0) → (let J3 := wr J2 (t + 10) (rd J2 (t + 7) x3) (wrap ((rd J2 (t + 10) (rd J2 (t + 7) x3)) - 1)); R 69 5 [(0, .inr (some t)), (2, .inl x2), (3, .inl (rd J2 (t + 7) x3)), (4, .inl (wrap (x4 + 1)))] [] J3 Q))))))))) : R 69 5 [(0, .inr (some t)), (2, .inl x2), (3, .inl x3), (4, .inl x4)] [] I Q := by
  rcases ht with rfl | rfl <;> exact wseg_sound pr_ok (cut := [(5, [0, 2, 3, 4])]) ok_69 400 true 5 _ _ _ h
set_option maxRecDepth 20000 in
theorem t74_0 {Q : Post} (t : Nat) (ht : t = 9 ∨ t = 40) (I : Mem) (x1 : Int) (x2 : Int) (h : R 74 17 [(0, .inr (some t)), (2, .inl x2), (3, .inl 0), (4, .inl (wrap (x1 + (rd I (t + 6) x1)))), (5, .inl x1)] [] I Q) : R 74 0 [(0, .inr (some t)), (1, .inl x1), (2, .inl x2)] [] I Q := by
  rcases ht with rfl | rfl <;> exact wseg_sound pr_ok (cut := [(17, [0, 2, 3, 4, 5])]) ok_74 400 true 0 _ _ _ h
set_option maxRecDepth 20000 in
theorem t74_17 {Q : Post} (t : Nat) (ht : t = 9 ∨ t = 40) (I : Mem) (x2 : Int) (x3 : Int) (x4 : Int) (x5 : Int) (h : (x4 ≤ x5 → (Q (some (.inl x3)) I)) ∧
 (¬ (x4 ≤ x5) → ((¬ (rd I (t + 1) x5) = x2 → (R 74 17 [(0, .inr (some t)), (2, .inl x2), (3, .inl x3), (4, .inl x4), (5, .inl (wrap (x5 + 1)))] [] I Q)) ∧
  (¬ (¬ (rd I (t + 1) x5) = x2) → (R 74 17 [(0, .inr (some t)), (2, .inl x2), (3, .inl (wrap (x3 + 1))), (4, .inl x4), (5, .inl (wrap (x5 + 1)))] [] I Q))))) : R 74 17 [(0, .inr (some t)), (2, .inl x2), (3, .inl x3), (4, .inl x4), (5, .inl x5)] [] I Q := by
  rcases ht with rfl | rfl <;> exact wseg_sound pr_ok (cut := [(17, [0, 2, 3, 4, 5])]) ok_74 400 true 17 _ _ _ h
set_option maxRecDepth 20000 in
theorem t75_0 {Q : Post} (t : Nat) (ht : t = 9 ∨ t = 40) (I : Mem) (x1 : Int) (x2 : Int) (h : R 75 17 [(0, .inr (some t)), (2, .inl x2), (3, .inl 0), (4, .inl (wrap (x1 + (rd I (t + 6) x1)))), (5, .inl x1)] [] I Q) : R 75 0 [(0, .inr (some t)), (1, .inl x1), (2, .inl x2)] [] I Q := by
  rcases ht with rfl | rfl <;> exact wseg_sound pr_ok (cut := [(17, [0, 2, 3, 4, 5])]) ok_75 400 true 0 _ _ _ h
set_option maxRecDepth 20000 in
theorem t75_17 {Q : Post} (t : Nat) (ht : t = 9 ∨ t = 40) (I : Mem) (x2 : Int) (x3 : Int) (x4 : Int) (x5 : Int) (h : (x4 ≤ x5 → (Q (some (.inl x3)) I)) ∧
 (¬ (x4 ≤ x5) → ((¬ (rd I (t + 1) x5) = 33 → (R 75 17 [(0, .inr (some t)), (2, .inl x2), (3, .inl x3), (4, .inl x4), (5, .inl (wrap (x5 + 1)))] [] I Q)) ∧
  (¬ (¬ (rd I (t + 1) x5) = 33) → ((¬ (rd I (t + 2) x5) = x2 → (R 75 17 [(0, .inr (some t)), (2, .inl x2), (3, .inl x3), (4, .inl x4), (5, .inl (wrap (x5 + 1)))] [] I Q)) ∧
   (¬ (¬ (rd I (t + 2) x5) = x2) → (R 75 17 [(0, .inr (some t)), (2, .inl x2), (3, .inl (wrap (x3 + 1))), (4, .inl x4), (5, .inl (wrap (x5 + 1)))] [] I Q))))))) : R 75 17 [(0, .inr (some t)), (2, .inl x2), (3, .inl x3), (4, .inl x4), (5, .inl x5)] [] I Q := by
  rcases ht with rfl | rfl <;> exact wseg_sound pr_ok (cut := [(17, [0, 2, 3, 4, 5])]) ok_75 400 true 17 _ _ _ h
