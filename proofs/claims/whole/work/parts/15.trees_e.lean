set_option maxRecDepth 20000 in
theorem t135_0 {Q : Post} (I : Mem) (h : (¬ (I 77 5) = 8 → (R 135 51 [(0, .inr (some 77)), (1, .inl 0)] [] I Q)) ∧
 (¬ (¬ (I 77 5) = 8) → (R 135 11 [(0, .inr (some 77)), (1, .inl 0)] [] I Q))) : R 135 0 [(0, .inr (some 77))] [] I Q := by
  exact wseg_sound pr_ok (cut := [(11, [0, 1]), (51, [0, 1])]) ok_135 400 true 0 _ _ _ h
set_option maxRecDepth 20000 in
theorem t135_51 {Q : Post} (I : Mem) (x1 : Int) (h : (63 ≤ x1 → (let J1 := upd2 I 77 5 (wrap ((I 77 5) + 1)); Q none J1)) ∧
 (¬ (63 ≤ x1) → (inb x1 (63) ∧ (inb (wrap ((wrap (63 * (I 77 5))) + x1)) (504) ∧ (let J2 := upd2 I 80 (wrap ((wrap (63 * (I 77 5))) + x1)).toNat (I 79 (x1).toNat); R 135 51 [(0, .inr (some 77)), (1, .inl (wrap (x1 + 1)))] [] J2 Q))))) : R 135 51 [(0, .inr (some 77)), (1, .inl x1)] [] I Q := by
  exact wseg_sound pr_ok (cut := [(11, [0, 1]), (51, [0, 1])]) ok_135 400 true 51 _ _ _ h
set_option maxRecDepth 20000 in
theorem t135_11 {Q : Post} (I : Mem) (x1 : Int) (h : (441 ≤ x1 → (let J1 := upd2 I 77 5 (wrap ((I 77 5) - 1)); R 135 51 [(0, .inr (some 77)), (1, .inl 0)] [] J1 Q)) ∧
 (¬ (441 ≤ x1) → (inb (wrap (x1 + 63)) (504) ∧ (inb x1 (504) ∧ (let J2 := upd2 I 80 (x1).toNat (I 80 (wrap (x1 + 63)).toNat); R 135 11 [(0, .inr (some 77)), (1, .inl (wrap (x1 + 1)))] [] J2 Q))))) : R 135 11 [(0, .inr (some 77)), (1, .inl x1)] [] I Q := by
  exact wseg_sound pr_ok (cut := [(11, [0, 1]), (51, [0, 1])]) ok_135 400 true 11 _ _ _ h
set_option maxRecDepth 20000 in
theorem t136_0 {Q : Post} (I : Mem) (x1 : Int) (x2 : Int) (h : let J1 := upd2 I 77 0 0; inb 61 (63) ∧ ((¬ (J1 79 (61 : Int).toNat) = x1 → (R 135 0 [(0, .inr (some 77))] [] J1 (fun r2 I2 => r2 = none ∧ (inb 61 (63) ∧ (let J3 := upd2 I2 79 (61 : Int).toNat x1; inb 62 (63) ∧ (let J4 := upd2 J3 79 (62 : Int).toNat x2; Q (some (.inl 1)) J4)))))) ∧
 (¬ (¬ (J1 79 (61 : Int).toNat) = x1) → (inb 62 (63) ∧ ((¬ (J1 79 (62 : Int).toNat) = x2 → (R 135 0 [(0, .inr (some 77))] [] J1 (fun r5 I5 => r5 = none ∧ (inb 61 (63) ∧ (let J6 := upd2 I5 79 (61 : Int).toNat x1; inb 62 (63) ∧ (let J7 := upd2 J6 79 (62 : Int).toNat x2; Q (some (.inl 1)) J7)))))) ∧
  (¬ (¬ (J1 79 (62 : Int).toNat) = x2) → (Q (some (.inl (-2))) J1))))))) : R 136 0 [(0, .inr (some 77)), (1, .inl x1), (2, .inl x2)] [] I Q := by
  exact wseg_sound pr_ok (cut := []) ok_136 400 true 0 _ _ _ h
set_option maxRecDepth 20000 in
theorem t137_0 {Q : Post} (I : Mem) (h : let J1 := upd2 I 77 0 0; (¬ (J1 77 5) = 0 → (let J2 := upd2 J1 77 5 (wrap ((J1 77 5) - 1)); R 137 27 [(0, .inr (some 77)), (1, .inl 0)] [] J2 Q)) ∧
 (¬ (¬ (J1 77 5) = 0) → (Q (some (.inl (-2))) J1))) : R 137 0 [(0, .inr (some 77))] [] I Q := by
  exact wseg_sound pr_ok (cut := [(27, [0, 1])]) ok_137 400 true 0 _ _ _ h
set_option maxRecDepth 20000 in
theorem t137_27 {Q : Post} (I : Mem) (x1 : Int) (h : (63 ≤ x1 → (R 127 0 [(0, .inr (some 77))] [] I (fun r1 I1 => r1 = none ∧ (Q (some (.inl (I1 77 5))) I1)))) ∧
 (¬ (63 ≤ x1) → (inb (wrap ((wrap (63 * (I 77 5))) + x1)) (504) ∧ (inb x1 (63) ∧ (let J2 := upd2 I 79 (x1).toNat (I 80 (wrap ((wrap (63 * (I 77 5))) + x1)).toNat); R 137 27 [(0, .inr (some 77)), (1, .inl (wrap (x1 + 1)))] [] J2 Q))))) : R 137 27 [(0, .inr (some 77)), (1, .inl x1)] [] I Q := by
  exact wseg_sound pr_ok (cut := [(27, [0, 1])]) ok_137 400 true 27 _ _ _ h
set_option maxRecDepth 20000 in
theorem t138_0 {Q : Post} (I : Mem) (x1 : Int) (x2 : Int) (h : inb x2 (60) ∧ (R 138 10 [(0, .inr (some 77)), (1, .inl x1), (2, .inl x2), (3, .inl 0), (4, .inl (I 89 (x2).toNat))] [] I Q)) : R 138 0 [(0, .inr (some 77)), (1, .inl x1), (2, .inl x2)] [] I Q := by
  exact wseg_sound pr_ok (cut := [(10, [0, 1, 2, 3, 4])]) ok_138 400 true 0 _ _ _ h
set_option maxRecDepth 20000 in
theorem t138_10 {Q : Post} (I : Mem) (x1 : Int) (x2 : Int) (x3 : Int) (x4 : Int) (h : inb x2 (60) ∧ (((I 90 (x2).toNat) ≤ x4 → (Q (some (.inl x3)) I)) ∧
 (¬ ((I 90 (x2).toNat) ≤ x4) → (inb x4 (63) ∧ ((¬ (I 79 (x4).toNat) = x1 → (R 138 10 [(0, .inr (some 77)), (1, .inl x1), (2, .inl x2), (3, .inl (wrap (x3 + 0))), (4, .inl (wrap (x4 + 1)))] [] I Q)) ∧
  (¬ (¬ (I 79 (x4).toNat) = x1) → (R 138 10 [(0, .inr (some 77)), (1, .inl x1), (2, .inl x2), (3, .inl (wrap (x3 + 1))), (4, .inl (wrap (x4 + 1)))] [] I Q))))))) : R 138 10 [(0, .inr (some 77)), (1, .inl x1), (2, .inl x2), (3, .inl x3), (4, .inl x4)] [] I Q := by
  exact wseg_sound pr_ok (cut := [(10, [0, 1, 2, 3, 4])]) ok_138 400 true 10 _ _ _ h
set_option maxRecDepth 20000 in
theorem t141_0 {Q : Post} (I : Mem) (x1 : Int) (h : mletP I x1 ∧ ((2 ≤ ((pts (mlet I x1) : Nat) : Int) → (mkidP x1 0 ∧ (mkidP x1 1 ∧ (mletP I (mkid I x1 0) ∧ (R 141 41 [(0, .inr (some 77)), (1, .inl x1), (2, .inl (mlet I x1)), (3, .inl (mkid I x1 0)), (4, .inl (mkid I x1 1)), (5, .inl (b2i (isDig (mlet I (mkid I x1 0)))))] [] I Q))))) ∧
 (¬ (2 ≤ ((pts (mlet I x1) : Nat) : Int)) → (Q (some (.inl 0)) I)))) : R 141 0 [(0, .inr (some 77)), (1, .inl x1)] [] I Q := by
  exact wseg_sound pr_ok (cut := [(41, [0, 1, 2, 3, 4, 5]), (112, [0, 1, 2, 3, 4]), (150, [0, 3, 7])]) ok_141 400 true 0 _ _ _ h
set_option maxRecDepth 20000 in
theorem t141_41 {Q : Post} (I : Mem) (x1 : Int) (x2 : Int) (x3 : Int) (x4 : Int) (x5 : Int) (h : ((b2i (isOpr x2)) = 0 → ((¬ x2 = 63 → (R 141 112 [(0, .inr (some 77)), (1, .inl x1), (2, .inl x2), (3, .inl x3), (4, .inl x4)] [] I Q)) ∧
  (¬ (¬ x2 = 63) → ((x5 = 0 → (Q (some (.inl 0)) I)) ∧
   (¬ (x5 = 0) → (Q (some (.inl 2)) I)))))) ∧
 (¬ ((b2i (isOpr x2)) = 0) → ((x5 = 0 → (Q (some (.inl 0)) I)) ∧
  (¬ (x5 = 0) → (mletP I x4 ∧ (((b2i (isDig (mlet I x4))) = 0 → (Q (some (.inl 0)) I)) ∧
   (¬ ((b2i (isDig (mlet I x4))) = 0) → (mletP I x3 ∧ (mletP I x4 ∧ (((b2i (inI (oper x2 (wrap (mlet I x3 - 48)) (wrap (mlet I x4 - 48))) 0 9)) = 0 → (Q (some (.inl 0)) I)) ∧
    (¬ ((b2i (inI (oper x2 (wrap (mlet I x3 - 48)) (wrap (mlet I x4 - 48))) 0 9)) = 0) → (Q (some (.inl 1)) I)))))))))))) : R 141 41 [(0, .inr (some 77)), (1, .inl x1), (2, .inl x2), (3, .inl x3), (4, .inl x4), (5, .inl x5)] [] I Q := by
  exact wseg_sound pr_ok (cut := [(41, [0, 1, 2, 3, 4, 5]), (112, [0, 1, 2, 3, 4]), (150, [0, 3, 7])]) ok_141 400 true 41 _ _ _ h
set_option maxRecDepth 20000 in
theorem t141_112 {Q : Post} (I : Mem) (x1 : Int) (x2 : Int) (x3 : Int) (x4 : Int) (h : mfunP I x1 ∧ (R 138 0 [(0, .inr (some 77)), (1, .inl (mfun I x1)), (2, .inl x4)] [] I (fun r1 I1 => ∃ v1, r1 = some (.inl v1) ∧ ((¬ x2 = 58 → ((¬ v1 = 0 → ((¬ v1 = 1 → (Q (some (.inl 0)) I1)) ∧
   (¬ (¬ v1 = 1) → (R 138 0 [(0, .inr (some 77)), (1, .inl (mfun I x1)), (2, .inl x3)] [] I1 (fun r2 I2 => ∃ v2, r2 = some (.inl v2) ∧ ((¬ v2 = 0 → (Q (some (.inl 0)) I2)) ∧
    (¬ (¬ v2 = 0) → (Q (some (.inl 7)) I2)))))))) ∧
  (¬ (¬ v1 = 0) → (Q (some (.inl 6)) I1)))) ∧
 (¬ (¬ x2 = 58) → (R 138 0 [(0, .inr (some 77)), (1, .inl 33), (2, .inl x3)] [] I1 (fun r3 I3 => ∃ v3, r3 = some (.inl v3) ∧ ((¬ v3 = 0 → (R 141 150 [(0, .inr (some 77)), (3, .inl x3), (7, .inl v1)] [.inl 0] I3 Q)) ∧
  (¬ (¬ v3 = 0) → (R 141 150 [(0, .inr (some 77)), (3, .inl x3), (7, .inl v1)] [.inl 1] I3 Q)))))))))) : R 141 112 [(0, .inr (some 77)), (1, .inl x1), (2, .inl x2), (3, .inl x3), (4, .inl x4)] [] I Q := by
  exact wseg_sound pr_ok (cut := [(41, [0, 1, 2, 3, 4, 5]), (112, [0, 1, 2, 3, 4]), (150, [0, 3, 7])]) ok_141 400 true 112 _ _ _ h
set_option maxRecDepth 20000 in
theorem t141_150 {Q : Post} (I : Mem) (x3 : Int) (x7 : Int) (y0 : Int) (h : (¬ x7 = 0 → (mletP I x3 ∧ ((¬ ((pts (mlet I x3) : Nat) : Int) = 0 → ((¬ x7 = 1 → (Q (some (.inl 0)) I)) ∧
   (¬ (¬ x7 = 1) → ((y0 = 0 → (Q (some (.inl 0)) I)) ∧
    (¬ (y0 = 0) → (Q (some (.inl 5)) I)))))) ∧
  (¬ (¬ ((pts (mlet I x3) : Nat) : Int) = 0) → (Q (some (.inl 4)) I))))) ∧
 (¬ (¬ x7 = 0) → ((y0 = 0 → (mletP I x3 ∧ ((¬ ((pts (mlet I x3) : Nat) : Int) = 0 → ((¬ x7 = 1 → (Q (some (.inl 0)) I)) ∧
    (¬ (¬ x7 = 1) → ((y0 = 0 → (Q (some (.inl 0)) I)) ∧
     (¬ (y0 = 0) → (Q (some (.inl 5)) I)))))) ∧
   (¬ (¬ ((pts (mlet I x3) : Nat) : Int) = 0) → (Q (some (.inl 4)) I))))) ∧
  (¬ (y0 = 0) → (Q (some (.inl 3)) I))))) : R 141 150 [(0, .inr (some 77)), (3, .inl x3), (7, .inl x7)] [.inl y0] I Q := by
  exact wseg_sound pr_ok (cut := [(41, [0, 1, 2, 3, 4, 5]), (112, [0, 1, 2, 3, 4]), (150, [0, 3, 7])]) ok_141 400 true 150 _ _ _ h
set_option maxRecDepth 20000 in
theorem t142_0 {Q : Post} (I : Mem) (h : R 142 2 [(0, .inr (some 77)), (1, .inl 0)] [] I Q) : R 142 0 [(0, .inr (some 77))] [] I Q := by
  exact wseg_sound pr_ok (cut := [(2, [0, 1])]) ok_142 400 true 0 _ _ _ h
set_option maxRecDepth 20000 in
theorem t142_2 {Q : Post} (I : Mem) (x1 : Int) (h : ((I 77 20) ≤ x1 → (Q (some (.inl (-9))) I)) ∧
 (¬ ((I 77 20) ≤ x1) → (R 141 0 [(0, .inr (some 77)), (1, .inl x1)] [] I (fun r1 I1 => ∃ v1, r1 = some (.inl v1) ∧ (let J2 := upd2 I1 77 32 v1; ((J2 77 32) ≤ 0 → (R 142 2 [(0, .inr (some 77)), (1, .inl (wrap (x1 + 1)))] [] J2 Q)) ∧
  (¬ ((J2 77 32) ≤ 0) → (Q (some (.inl x1)) J2))))))) : R 142 2 [(0, .inr (some 77)), (1, .inl x1)] [] I Q := by
  exact wseg_sound pr_ok (cut := [(2, [0, 1])]) ok_142 400 true 2 _ _ _ h
set_option maxRecDepth 20000 in
theorem t144_0 {Q : Post} (I : Mem) (x1 : Int) (x2 : Int) (h : R 144 2 [(0, .inr (some 77)), (2, .inl x2), (3, .inl x1)] [] I Q) : R 144 0 [(0, .inr (some 77)), (1, .inl x1), (2, .inl x2)] [] I Q := by
  exact wseg_sound pr_ok (cut := [(2, [0, 2, 3])]) ok_144 400 true 0 _ _ _ h
set_option maxRecDepth 20000 in
theorem t144_2 {Q : Post} (I : Mem) (x2 : Int) (x3 : Int) (h : (x2 ≤ x3 → (Q none I)) ∧
 (¬ (x2 ≤ x3) → (inb x3 (63) ∧ (inb (I 77 34) 60 ∧ (let J1 := upd2 (upd2 I 100 (I 77 34).toNat (I 79 (x3).toNat)) 77 34 (wrap (I 77 34 + 1)); R 144 2 [(0, .inr (some 77)), (2, .inl x2), (3, .inl (wrap (x3 + 1)))] [] J1 Q))))) : R 144 2 [(0, .inr (some 77)), (2, .inl x2), (3, .inl x3)] [] I Q := by
  exact wseg_sound pr_ok (cut := [(2, [0, 2, 3])]) ok_144 400 true 2 _ _ _ h
set_option maxRecDepth 20000 in
theorem t145_0 {Q : Post} (I : Mem) (x1 : Int) (h : inb x1 (60) ∧ (inb x1 (60) ∧ (R 144 0 [(0, .inr (some 77)), (1, .inl (I 89 (x1).toNat)), (2, .inl (I 90 (x1).toNat))] [] I (fun r1 I1 => r1 = none ∧ (Q none I1))))) : R 145 0 [(0, .inr (some 77)), (1, .inl x1)] [] I Q := by
  exact wseg_sound pr_ok (cut := []) ok_145 400 true 0 _ _ _ h
set_option maxRecDepth 20000 in
theorem t146_0 {Q : Post} (I : Mem) (x1 : Int) (x2 : Int) (x3 : Int) (h : inb x1 (60) ∧ (R 146 8 [(0, .inr (some 77)), (1, .inl x1), (2, .inl x2), (3, .inl x3), (4, .inl (I 89 (x1).toNat))] [] I Q)) : R 146 0 [(0, .inr (some 77)), (1, .inl x1), (2, .inl x2), (3, .inl x3)] [] I Q := by
  exact wseg_sound pr_ok (cut := [(8, [0, 1, 2, 3, 4])]) ok_146 400 true 0 _ _ _ h
set_option maxRecDepth 20000 in
theorem t146_8 {Q : Post} (I : Mem) (x1 : Int) (x2 : Int) (x3 : Int) (x4 : Int) (h : inb x1 (60) ∧ (((I 90 (x1).toNat) ≤ x4 → (Q none I)) ∧
 (¬ ((I 90 (x1).toNat) ≤ x4) → (inb x4 (63) ∧ ((¬ (I 79 (x4).toNat) = x2 → (inb x4 (63) ∧ (inb (I 77 34) 60 ∧ (let J1 := upd2 (upd2 I 100 (I 77 34).toNat (I 79 (x4).toNat)) 77 34 (wrap (I 77 34 + 1)); R 146 8 [(0, .inr (some 77)), (1, .inl x1), (2, .inl x2), (3, .inl x3), (4, .inl (wrap (x4 + 1)))] [] J1 Q)))) ∧
  (¬ (¬ (I 79 (x4).toNat) = x2) → (R 145 0 [(0, .inr (some 77)), (1, .inl x3)] [] I (fun r2 I2 => r2 = none ∧ (R 146 8 [(0, .inr (some 77)), (1, .inl x1), (2, .inl x2), (3, .inl x3), (4, .inl (wrap (x4 + 1)))] [] I2 Q))))))))) : R 146 8 [(0, .inr (some 77)), (1, .inl x1), (2, .inl x2), (3, .inl x3), (4, .inl x4)] [] I Q := by
  exact wseg_sound pr_ok (cut := [(8, [0, 1, 2, 3, 4])]) ok_146 400 true 8 _ _ _ h
set_option maxRecDepth 20000 in
theorem t147_0 {Q : Post} (I : Mem) (x1 : Int) (x2 : Int) (h : R 147 6 [(0, .inr (some 77)), (1, .inl x1), (2, .inl x2), (3, .inl (-9)), (4, .inl x1)] [] I Q) : R 147 0 [(0, .inr (some 77)), (1, .inl x1), (2, .inl x2)] [] I Q := by
  exact wseg_sound pr_ok (cut := [(6, [0, 1, 2, 3, 4])]) ok_147 400 true 0 _ _ _ h
set_option maxRecDepth 20000 in
theorem t147_6 {Q : Post} (I : Mem) (x1 : Int) (x2 : Int) (x3 : Int) (x4 : Int) (h : inb x1 (60) ∧ (((wrap (x1 + (I 91 (x1).toNat))) ≤ x4 → (Q (some (.inl x3)) I)) ∧
 (¬ ((wrap (x1 + (I 91 (x1).toNat))) ≤ x4) → (mletP I x4 ∧ (((b2i (decide (mlet I x4 = 33))) = 0 → (R 147 6 [(0, .inr (some 77)), (1, .inl x1), (2, .inl x2), (3, .inl x3), (4, .inl (wrap (x4 + 1)))] [] I Q)) ∧
  (¬ ((b2i (decide (mlet I x4 = 33))) = 0) → (mfunP I x4 ∧ ((¬ (mfun I x4) = x2 → (R 147 6 [(0, .inr (some 77)), (1, .inl x1), (2, .inl x2), (3, .inl x3), (4, .inl (wrap (x4 + 1)))] [] I Q)) ∧
   (¬ (¬ (mfun I x4) = x2) → (R 147 6 [(0, .inr (some 77)), (1, .inl x1), (2, .inl x2), (3, .inl x4), (4, .inl (wrap (x4 + 1)))] [] I Q)))))))))) : R 147 6 [(0, .inr (some 77)), (1, .inl x1), (2, .inl x2), (3, .inl x3), (4, .inl x4)] [] I Q := by
  exact wseg_sound pr_ok (cut := [(6, [0, 1, 2, 3, 4])]) ok_147 400 true 6 _ _ _ h
set_option maxRecDepth 20000 in
theorem t148_0 {Q : Post} (I : Mem) (x1 : Int) (h : mkidP x1 1 ∧ (mfunP I x1 ∧ (R 147 0 [(0, .inr (some 77)), (1, .inl (mkid I x1 1)), (2, .inl (mfun I x1))] [] I (fun r1 I1 => ∃ v1, r1 = some (.inl v1) ∧ (inb (mkid I x1 1) (60) ∧ (inb v1 (60) ∧ (R 144 0 [(0, .inr (some 77)), (1, .inl (I1 89 (mkid I x1 1).toNat)), (2, .inl (I1 89 (v1).toNat))] [] I1 (fun r2 I2 => r2 = none ∧ (inb (I2 77 34) 60 ∧ (let J3 := upd2 (upd2 I2 100 (I2 77 34).toNat 58) 77 34 (wrap (I2 77 34 + 1)); inb x1 (60) ∧ (inb (wrap ((J3 89 (x1).toNat) + 2)) (63) ∧ (inb (J3 77 34) 60 ∧ (let J4 := upd2 (upd2 J3 100 (J3 77 34).toNat (J3 79 (wrap ((J3 89 (x1).toNat) + 2)).toNat)) 77 34 (wrap (J3 77 34 + 1)); mkidP v1 0 ∧ (R 145 0 [(0, .inr (some 77)), (1, .inl (mkid J4 v1 0))] [] J4 (fun r5 I5 => r5 = none ∧ (mkidP x1 0 ∧ (R 145 0 [(0, .inr (some 77)), (1, .inl (mkid I5 x1 0))] [] I5 (fun r6 I6 => r6 = none ∧ (inb v1 (60) ∧ (inb (mkid I x1 1) (60) ∧ (R 144 0 [(0, .inr (some 77)), (1, .inl (I6 90 (v1).toNat)), (2, .inl (I6 90 (mkid I x1 1).toNat))] [] I6 (fun r7 I7 => r7 = none ∧ (Q none I7))))))))))))))))))))))) : R 148 0 [(0, .inr (some 77)), (1, .inl x1)] [] I Q := by
  exact wseg_sound pr_ok (cut := []) ok_148 400 true 0 _ _ _ h
set_option maxRecDepth 20000 in
theorem t149_0 {Q : Post} (I : Mem) (h : R 142 0 [(0, .inr (some 77))] [] I (fun r1 I1 => ∃ v1, r1 = some (.inl v1) ∧ ((¬ v1 = (-9) → (mkidP v1 0 ∧ (mkidP v1 1 ∧ (let J2 := upd2 I1 77 34 0; inb v1 (60) ∧ (R 144 0 [(0, .inr (some 77)), (1, .inl 0), (2, .inl (J2 89 (v1).toNat))] [] J2 (fun r3 I3 => r3 = none ∧ ((¬ (I3 77 32) = 1 → ((¬ (I3 77 32) = 2 → (((I3 77 32) = 4 → (mfunP I3 v1 ∧ (R 146 0 [(0, .inr (some 77)), (1, .inl (mkid I1 v1 1)), (2, .inl (mfun I3 v1)), (3, .inl (mkid I1 v1 0))] [] I3 (fun r4 I4 => r4 = none ∧ (R 149 164 [(0, .inr (some 77)), (1, .inl v1)] [] I4 Q))))) ∧
    (¬ ((I3 77 32) = 4) → ((¬ (I3 77 32) = 5 → ((¬ (I3 77 32) = 7 → (R 145 0 [(0, .inr (some 77)), (1, .inl (mkid I1 v1 1))] [] I3 (fun r5 I5 => r5 = none ∧ (R 149 164 [(0, .inr (some 77)), (1, .inl v1)] [] I5 Q)))) ∧
      (¬ (¬ (I3 77 32) = 7) → (R 148 0 [(0, .inr (some 77)), (1, .inl v1)] [] I3 (fun r6 I6 => r6 = none ∧ (R 149 164 [(0, .inr (some 77)), (1, .inl v1)] [] I6 Q)))))) ∧
     (¬ (¬ (I3 77 32) = 5) → (mfunP I3 v1 ∧ (R 146 0 [(0, .inr (some 77)), (1, .inl (mkid I1 v1 1)), (2, .inl (mfun I3 v1)), (3, .inl (mkid I1 v1 0))] [] I3 (fun r7 I7 => r7 = none ∧ (R 149 164 [(0, .inr (some 77)), (1, .inl v1)] [] I7 Q))))))))) ∧
   (¬ (¬ (I3 77 32) = 2) → (mletP I3 (mkid I1 v1 0) ∧ ((¬ (wrap (mlet I3 (mkid I1 v1 0) - 48)) = 0 → (mkidP v1 2 ∧ (R 145 0 [(0, .inr (some 77)), (1, .inl (mkid I3 v1 2))] [] I3 (fun r8 I8 => r8 = none ∧ (R 149 164 [(0, .inr (some 77)), (1, .inl v1)] [] I8 Q))))) ∧
    (¬ (¬ (wrap (mlet I3 (mkid I1 v1 0) - 48)) = 0) → (R 145 0 [(0, .inr (some 77)), (1, .inl (mkid I1 v1 1))] [] I3 (fun r9 I9 => r9 = none ∧ (R 149 164 [(0, .inr (some 77)), (1, .inl v1)] [] I9 Q))))))))) ∧
  (¬ (¬ (I3 77 32) = 1) → (mletP I3 v1 ∧ (mletP I3 (mkid I1 v1 0) ∧ (mletP I3 (mkid I1 v1 1) ∧ (inb (I3 77 34) 60 ∧ (let J10 := upd2 (upd2 I3 100 (I3 77 34).toNat (wrap (48 + (oper (mlet I3 v1) (wrap (mlet I3 (mkid I1 v1 0) - 48)) (wrap (mlet I3 (mkid I1 v1 1) - 48)))))) 77 34 (wrap (I3 77 34 + 1)); R 149 164 [(0, .inr (some 77)), (1, .inl v1)] [] J10 Q))))))))))))) ∧
 (¬ (¬ v1 = (-9)) → (RetB 0 I1 Q))))) : R 149 0 [(0, .inr (some 77))] [] I Q := by
  exact wseg_sound pr_ok (cut := [(164, [0, 1]), (184, [0, 4])]) ok_149 400 true 0 _ _ _ h
set_option maxRecDepth 20000 in
theorem t149_164 {Q : Post} (I : Mem) (x1 : Int) (h : inb x1 (60) ∧ (inb 60 (63) ∧ (R 144 0 [(0, .inr (some 77)), (1, .inl (I 90 (x1).toNat)), (2, .inl (I 79 (60 : Int).toNat))] [] I (fun r1 I1 => r1 = none ∧ (R 149 184 [(0, .inr (some 77)), (4, .inl 0)] [] I1 Q))))) : R 149 164 [(0, .inr (some 77)), (1, .inl x1)] [] I Q := by
  exact wseg_sound pr_ok (cut := [(164, [0, 1]), (184, [0, 4])]) ok_149 400 true 164 _ _ _ h
set_option maxRecDepth 20000 in
theorem t149_184 {Q : Post} (I : Mem) (x4 : Int) (h : ((I 77 34) ≤ x4 → (inb 60 (63) ∧ (let J1 := upd2 I 79 (60 : Int).toNat (I 77 34); R 127 0 [(0, .inr (some 77))] [] J1 (fun r2 I2 => r2 = none ∧ (RetB 1 I2 Q))))) ∧
 (¬ ((I 77 34) ≤ x4) → (inb x4 (60) ∧ (inb x4 (63) ∧ (let J3 := upd2 I 79 (x4).toNat (I 100 (x4).toNat); R 149 184 [(0, .inr (some 77)), (4, .inl (wrap (x4 + 1)))] [] J3 Q))))) : R 149 184 [(0, .inr (some 77)), (4, .inl x4)] [] I Q := by
  exact wseg_sound pr_ok (cut := [(164, [0, 1]), (184, [0, 4])]) ok_149 400 true 184 _ _ _ h
set_option maxRecDepth 20000 in
theorem t150_0 {Q : Post} (I : Mem) (x1 : Int) (h : let J1 := upd2 I 77 0 0; (¬ (b2i (inI x1 1 60)) = 0 → (R 142 0 [(0, .inr (some 77))] [] J1 (fun r2 I2 => ∃ v2, r2 = some (.inl v2) ∧ ((¬ v2 = (-9) → (R 135 0 [(0, .inr (some 77))] [] I2 (fun r3 I3 => r3 = none ∧ (R 150 35 [(0, .inr (some 77)), (1, .inl x1), (2, .inl 0)] [] I3 Q)))) ∧
  (¬ (¬ v2 = (-9)) → (Q (some (.inl (-2))) I2)))))) ∧
 (¬ (¬ (b2i (inI x1 1 60)) = 0) → (Q (some (.inl (-1))) J1))) : R 150 0 [(0, .inr (some 77)), (1, .inl x1)] [] I Q := by
  exact wseg_sound pr_ok (cut := [(35, [0, 1, 2])]) ok_150 400 true 0 _ _ _ h
set_option maxRecDepth 20000 in
theorem t150_35 {Q : Post} (I : Mem) (x1 : Int) (x2 : Int) (h : (x1 ≤ x2 → (Q (some (.inl x2)) I)) ∧
 (¬ (x1 ≤ x2) → (R 149 0 [(0, .inr (some 77))] [] I (fun r1 I1 => ∃ v1, r1 = some (.inl v1) ∧ ((v1 = 0 → (Q (some (.inl x2)) I1)) ∧
  (¬ (v1 = 0) → (R 150 35 [(0, .inr (some 77)), (1, .inl x1), (2, .inl (wrap (x2 + 1)))] [] I1 Q))))))) : R 150 35 [(0, .inr (some 77)), (1, .inl x1), (2, .inl x2)] [] I Q := by
  exact wseg_sound pr_ok (cut := [(35, [0, 1, 2])]) ok_150 400 true 35 _ _ _ h
set_option maxRecDepth 20000 in
theorem t151_0 {Q : Post} (I : Mem) (x1 : Int) (h : let J1 := upd2 I 77 0 0; (¬ (b2i (inI x1 0 1)) = 0 → (R 142 0 [(0, .inr (some 77))] [] J1 (fun r2 I2 => ∃ v2, r2 = some (.inl v2) ∧ ((v2 = (-9) → (Q (some (.inl v2)) I2)) ∧
  (¬ (v2 = (-9)) → ((¬ x1 = 0 → (Q (some (.inl (I2 77 32))) I2)) ∧
   (¬ (¬ x1 = 0) → (Q (some (.inl v2)) I2)))))))) ∧
 (¬ (¬ (b2i (inI x1 0 1)) = 0) → (Q (some (.inl (-1))) J1))) : R 151 0 [(0, .inr (some 77)), (1, .inl x1)] [] I Q := by
  exact wseg_sound pr_ok (cut := []) ok_151 400 true 0 _ _ _ h
set_option maxRecDepth 20000 in
theorem t152_0 {Q : Post} (I : Mem) (x1 : Int) (h : let J1 := upd2 I 77 0 0; (¬ (b2i (inI x1 0 1)) = 0 → (R 152 18 [(0, .inr (some 77)), (1, .inl x1), (2, .inl 0)] [] J1 Q)) ∧
 (¬ (¬ (b2i (inI x1 0 1)) = 0) → (Q (some (.inl (-1))) J1))) : R 152 0 [(0, .inr (some 77)), (1, .inl x1)] [] I Q := by
  exact wseg_sound pr_ok (cut := [(18, [0, 1, 2]), (44, [0, 1, 2]), (65, [0, 1, 2, 3, 4])]) ok_152 400 true 0 _ _ _ h
set_option maxRecDepth 20000 in
theorem t152_18 {Q : Post} (I : Mem) (x1 : Int) (x2 : Int) (h : (63 ≤ x2 → (R 152 44 [(0, .inr (some 77)), (1, .inl x1), (2, .inl 0)] [] I Q)) ∧
 (¬ (63 ≤ x2) → (inb x2 (63) ∧ (inb x2 (63) ∧ (let J1 := upd2 I 83 (x2).toNat (I 79 (x2).toNat); R 152 18 [(0, .inr (some 77)), (1, .inl x1), (2, .inl (wrap (x2 + 1)))] [] J1 Q))))) : R 152 18 [(0, .inr (some 77)), (1, .inl x1), (2, .inl x2)] [] I Q := by
  exact wseg_sound pr_ok (cut := [(18, [0, 1, 2]), (44, [0, 1, 2]), (65, [0, 1, 2, 3, 4])]) ok_152 400 true 18 _ _ _ h
set_option maxRecDepth 20000 in
theorem t152_44 {Q : Post} (I : Mem) (x1 : Int) (x2 : Int) (h : R 149 0 [(0, .inr (some 77))] [] I (fun r1 I1 => ∃ v1, r1 = some (.inl v1) ∧ ((v1 = 0 → (R 152 65 [(0, .inr (some 77)), (1, .inl x1), (2, .inl x2), (3, .inl (I1 77 20)), (4, .inl 0)] [] I1 Q)) ∧
 (¬ (v1 = 0) → (R 152 44 [(0, .inr (some 77)), (1, .inl x1), (2, .inl (wrap (x2 + 1)))] [] I1 Q))))) : R 152 44 [(0, .inr (some 77)), (1, .inl x1), (2, .inl x2)] [] I Q := by
  exact wseg_sound pr_ok (cut := [(18, [0, 1, 2]), (44, [0, 1, 2]), (65, [0, 1, 2, 3, 4])]) ok_152 400 true 44 _ _ _ h
set_option maxRecDepth 20000 in
theorem t152_65 {Q : Post} (I : Mem) (x1 : Int) (x2 : Int) (x3 : Int) (x4 : Int) (h : (63 ≤ x4 → (R 127 0 [(0, .inr (some 77))] [] I (fun r1 I1 => r1 = none ∧ ((¬ x1 = 0 → (Q (some (.inl x3)) I1)) ∧
  (¬ (¬ x1 = 0) → (Q (some (.inl x2)) I1)))))) ∧
 (¬ (63 ≤ x4) → (inb x4 (63) ∧ (inb x4 (63) ∧ (let J2 := upd2 I 79 (x4).toNat (I 83 (x4).toNat); R 152 65 [(0, .inr (some 77)), (1, .inl x1), (2, .inl x2), (3, .inl x3), (4, .inl (wrap (x4 + 1)))] [] J2 Q))))) : R 152 65 [(0, .inr (some 77)), (1, .inl x1), (2, .inl x2), (3, .inl x3), (4, .inl x4)] [] I Q := by
  exact wseg_sound pr_ok (cut := [(18, [0, 1, 2]), (44, [0, 1, 2]), (65, [0, 1, 2, 3, 4])]) ok_152 400 true 65 _ _ _ h
set_option maxRecDepth 20000 in
theorem t153_0 {Q : Post} (I : Mem) (x1 : Int) (x2 : Int) (h : let J1 := upd2 I 77 0 0; ((b2i (inI x1 0 (wrap (J1 77 20 - 1)))) = 0 → (Q (some (.inl (-1))) J1)) ∧
 (¬ ((b2i (inI x1 0 (wrap (J1 77 20 - 1)))) = 0) → ((¬ (b2i (inI x2 0 3)) = 0 → ((¬ x2 = 0 → ((¬ x2 = 1 → ((¬ x2 = 2 → (inb x1 (60) ∧ (Q (some (.inl (J1 93 (x1).toNat))) J1))) ∧
     (¬ (¬ x2 = 2) → (inb x1 (60) ∧ (Q (some (.inl (J1 92 (x1).toNat))) J1))))) ∧
    (¬ (¬ x2 = 1) → (inb x1 (60) ∧ (Q (some (.inl (J1 91 (x1).toNat))) J1))))) ∧
   (¬ (¬ x2 = 0) → (mletP J1 x1 ∧ (Q (some (.inl (mlet J1 x1))) J1))))) ∧
  (¬ (¬ (b2i (inI x2 0 3)) = 0) → (Q (some (.inl (-1))) J1))))) : R 153 0 [(0, .inr (some 77)), (1, .inl x1), (2, .inl x2)] [] I Q := by
  exact wseg_sound pr_ok (cut := []) ok_153 400 true 0 _ _ _ h
set_option maxRecDepth 20000 in
theorem t154_0 {Q : Post} (I : Mem) (x1 : Int) (h : let J1 := upd2 I 77 0 0; ((-1) ≤ x1 → ((¬ x1 = (-1) → (inb 60 (63) ∧ (((J1 79 (60 : Int).toNat) ≤ x1 → (Q (some (.inl (-9))) J1)) ∧
   (¬ ((J1 79 (60 : Int).toNat) ≤ x1) → (inb x1 (63) ∧ (Q (some (.inl (J1 79 (x1).toNat))) J1)))))) ∧
  (¬ (¬ x1 = (-1)) → (inb 60 (63) ∧ (Q (some (.inl (J1 79 (60 : Int).toNat))) J1))))) ∧
 (¬ ((-1) ≤ x1) → (Q (some (.inl (-1))) J1))) : R 154 0 [(0, .inr (some 77)), (1, .inl x1)] [] I Q := by
  exact wseg_sound pr_ok (cut := []) ok_154 400 true 0 _ _ _ h
set_option maxRecDepth 20000 in
theorem t155_0 {Q : Post} (I : Mem) (x1 : Int) (h : let J1 := upd2 I 77 0 0; (¬ (b2i (isVal x1)) = 0 → (R 155 25 [(0, .inr (some 77)), (1, .inl x1), (2, .inl 0), (3, .inl 0)] [] J1 Q)) ∧
 (¬ (¬ (b2i (isVal x1)) = 0) → ((¬ (b2i (isInp x1)) = 0 → (R 155 25 [(0, .inr (some 77)), (1, .inl x1), (2, .inl 0), (3, .inl 0)] [] J1 Q)) ∧
  (¬ (¬ (b2i (isInp x1)) = 0) → (Q (some (.inl (-1))) J1))))) : R 155 0 [(0, .inr (some 77)), (1, .inl x1)] [] I Q := by
  exact wseg_sound pr_ok (cut := [(25, [0, 1, 2, 3])]) ok_155 400 true 0 _ _ _ h
set_option maxRecDepth 20000 in
theorem t155_25 {Q : Post} (I : Mem) (x1 : Int) (x2 : Int) (x3 : Int) (h : ((I 77 20) ≤ x3 → (Q (some (.inl x2)) I)) ∧
 (¬ ((I 77 20) ≤ x3) → (mletP I x3 ∧ ((¬ (mlet I x3) = x1 → (R 155 25 [(0, .inr (some 77)), (1, .inl x1), (2, .inl (wrap (x2 + 0))), (3, .inl (wrap (x3 + 1)))] [] I Q)) ∧
  (¬ (¬ (mlet I x3) = x1) → (R 155 25 [(0, .inr (some 77)), (1, .inl x1), (2, .inl (wrap (x2 + 1))), (3, .inl (wrap (x3 + 1)))] [] I Q)))))) : R 155 25 [(0, .inr (some 77)), (1, .inl x1), (2, .inl x2), (3, .inl x3)] [] I Q := by
  exact wseg_sound pr_ok (cut := [(25, [0, 1, 2, 3])]) ok_155 400 true 25 _ _ _ h
set_option maxRecDepth 20000 in
theorem t156_0 {Q : Post} (I : Mem) (x1 : Int) (x2 : Int) (h : let J1 := upd2 I 77 0 0; ((b2i (isFun x1)) = 0 → (Q (some (.inl (-1))) J1)) ∧
 (¬ ((b2i (isFun x1)) = 0) → ((¬ (b2i (inI x2 0 4)) = 0 → (R 131 0 [(0, .inr (some 77)), (1, .inl x1)] [] J1 (fun r2 I2 => ∃ v2, r2 = some (.inl v2) ∧ ((v2 = (-9) → (Q (some (.inl v2)) I2)) ∧
   (¬ (v2 = (-9)) → ((¬ x2 = 0 → ((x2 ≤ 2 → (R 156 83 [(0, .inr (some 77)), (1, .inl x1), (2, .inl x2), (4, .inl 0), (5, .inl 0)] [] I2 Q)) ∧
     (¬ (x2 ≤ 2) → ((¬ x2 = 3 → (inb (wrap (x1 - 65)) 6 ∧ (((b2i (mjmp (I2 99 (wrap (x1 - 65)).toNat))) = 0 → (Q (some (.inl 0)) I2)) ∧
       (¬ ((b2i (mjmp (I2 99 (wrap (x1 - 65)).toNat))) = 0) → (Q (some (.inl 1)) I2))))) ∧
      (¬ (¬ x2 = 3) → (inb (wrap (x1 - 65)) (6) ∧ (Q (some (.inl (I2 99 (wrap (x1 - 65)).toNat))) I2))))))) ∧
    (¬ (¬ x2 = 0) → (Q (some (.inl v2)) I2)))))))) ∧
  (¬ (¬ (b2i (inI x2 0 4)) = 0) → (Q (some (.inl (-1))) J1))))) : R 156 0 [(0, .inr (some 77)), (1, .inl x1), (2, .inl x2)] [] I Q := by
  exact wseg_sound pr_ok (cut := [(83, [0, 1, 2, 4, 5])]) ok_156 400 true 0 _ _ _ h
set_option maxRecDepth 20000 in
theorem t156_83 {Q : Post} (I : Mem) (x1 : Int) (x2 : Int) (x4 : Int) (x5 : Int) (h : ((I 77 20) ≤ x5 → (Q (some (.inl x4)) I)) ∧
 (¬ ((I 77 20) ≤ x5) → (mletP I x5 ∧ (((b2i (decide (mlet I x5 = 33))) = 0 → (R 156 83 [(0, .inr (some 77)), (1, .inl x1), (2, .inl x2), (4, .inl (wrap (x4 + 0))), (5, .inl (wrap (x5 + 1)))] [] I Q)) ∧
  (¬ ((b2i (decide (mlet I x5 = 33))) = 0) → (mfunP I x5 ∧ ((¬ (mfun I x5) = x1 → (R 156 83 [(0, .inr (some 77)), (1, .inl x1), (2, .inl x2), (4, .inl (wrap (x4 + 0))), (5, .inl (wrap (x5 + 1)))] [] I Q)) ∧
   (¬ (¬ (mfun I x5) = x1) → ((x2 = 1 → (R 156 83 [(0, .inr (some 77)), (1, .inl x1), (2, .inl x2), (4, .inl (wrap (x4 + 1))), (5, .inl (wrap (x5 + 1)))] [] I Q)) ∧
    (¬ (x2 = 1) → (inb x5 (60) ∧ (((I 96 (x5).toNat) = 0 → (R 156 83 [(0, .inr (some 77)), (1, .inl x1), (2, .inl x2), (4, .inl (wrap (x4 + 0))), (5, .inl (wrap (x5 + 1)))] [] I Q)) ∧
     (¬ ((I 96 (x5).toNat) = 0) → (R 156 83 [(0, .inr (some 77)), (1, .inl x1), (2, .inl x2), (4, .inl (wrap (x4 + 1))), (5, .inl (wrap (x5 + 1)))] [] I Q)))))))))))))) : R 156 83 [(0, .inr (some 77)), (1, .inl x1), (2, .inl x2), (4, .inl x4), (5, .inl x5)] [] I Q := by
  exact wseg_sound pr_ok (cut := [(83, [0, 1, 2, 4, 5])]) ok_156 400 true 83 _ _ _ h
set_option maxRecDepth 20000 in
theorem t157_0 {Q : Post} (I : Mem) (x1 : Int) (h : let J1 := upd2 I 77 0 0; (¬ (b2i (inI x1 0 (wrap (J1 77 20 - 1)))) = 0 → (mletP J1 x1 ∧ ((¬ (b2i (decide (mlet J1 x1 = 33))) = 0 → (inb x1 (60) ∧ (((J1 96 (x1).toNat) = 0 → (Q (some (.inl 0)) J1)) ∧
   (¬ ((J1 96 (x1).toNat) = 0) → (Q (some (.inl 1)) J1))))) ∧
  (¬ (¬ (b2i (decide (mlet J1 x1 = 33))) = 0) → (Q (some (.inl (-9))) J1))))) ∧
 (¬ (¬ (b2i (inI x1 0 (wrap (J1 77 20 - 1)))) = 0) → (Q (some (.inl (-1))) J1))) : R 157 0 [(0, .inr (some 77)), (1, .inl x1)] [] I Q := by
  exact wseg_sound pr_ok (cut := []) ok_157 400 true 0 _ _ _ h
set_option maxRecDepth 20000 in
theorem t159_0 {Q : Post} (I : Mem) (x1 : Int) (x2 : Int) (h : R 159 2 [(0, .inr (some 77)), (1, .inl x1), (3, .inl x2)] [] I Q) : R 159 0 [(0, .inr (some 77)), (1, .inl x1), (2, .inl x2)] [] I Q := by
  exact wseg_sound pr_ok (cut := [(2, [0, 1, 3])]) ok_159 400 true 0 _ _ _ h
set_option maxRecDepth 20000 in
theorem t159_2 {Q : Post} (I : Mem) (x1 : Int) (x3 : Int) (h : inb x3 (320) ∧ (((I 105 (x3).toNat) = x1 → (Q (some (.inl x3)) I)) ∧
 (¬ ((I 105 (x3).toNat) = x1) → (inb x3 (320) ∧ (R 159 2 [(0, .inr (some 77)), (1, .inl x1), (3, .inl (I 107 (x3).toNat))] [] I Q))))) : R 159 2 [(0, .inr (some 77)), (1, .inl x1), (3, .inl x3)] [] I Q := by
  exact wseg_sound pr_ok (cut := [(2, [0, 1, 3])]) ok_159 400 true 2 _ _ _ h
set_option maxRecDepth 20000 in
theorem t160_0 {Q : Post} (I : Mem) (x1 : Int) (x2 : Int) (h : ((I 77 46) = 300 → (isB 1 ∧ (let J1 := upd2 I 77 44 1; Q none J1))) ∧
 (¬ ((I 77 46) = 300) → ((¬ (I 77 39) = 100 → (let J2 := upd2 I 77 46 (wrap ((I 77 46) + 1)); inb x1 (60) ∧ (inb x1 (60) ∧ (let J3 := upd2 J2 108 (x1).toNat (wrap ((J2 108 (x1).toNat) + 1)); inb (J3 77 39) (100) ∧ (let J4 := upd2 J3 101 (J3 77 39).toNat x1; inb (J4 77 39) (100) ∧ (let J5 := upd2 J4 102 (J4 77 39).toNat 0; inb (J5 77 39) (100) ∧ (let J6 := upd2 J5 103 (J5 77 39).toNat x2; let J7 := upd2 J6 77 39 (wrap ((J6 77 39) + 1)); Q none J7))))))) ∧
  (¬ (¬ (I 77 39) = 100) → (isB 1 ∧ (let J8 := upd2 I 77 44 1; Q none J8)))))) : R 160 0 [(0, .inr (some 77)), (1, .inl x1), (2, .inl x2)] [] I Q := by
  exact wseg_sound pr_ok (cut := []) ok_160 400 true 0 _ _ _ h
set_option maxRecDepth 20000 in
theorem t161_0 {Q : Post} (I : Mem) (x1 : Int) (x2 : Int) (h : inb x1 (100) ∧ ((¬ (I 102 (x1).toNat) = 1 → (inb x1 (100) ∧ ((¬ (I 102 (x1).toNat) = 2 → (mletP I x2 ∧ (inb x1 (100) ∧ (let J1 := upd2 I 77 45 (oper (mlet I x2) (I 104 (x1).toNat) (I 77 45)); let J2 := upd2 J1 77 39 (wrap ((J1 77 39) - 1)); Q none J2)))) ∧
  (¬ (¬ (I 102 (x1).toNat) = 2) → (inb x1 (100) ∧ (let J3 := upd2 I 104 (x1).toNat (I 77 45); mkidP x2 1 ∧ (inb x1 (100) ∧ (R 160 0 [(0, .inr (some 77)), (1, .inl (mkid J3 x2 1)), (2, .inl (J3 103 (x1).toNat))] [] J3 (fun r4 I4 => r4 = none ∧ (Q none I4)))))))))) ∧
 (¬ (¬ (I 102 (x1).toNat) = 1) → (mkidP x2 0 ∧ (inb x1 (100) ∧ (R 160 0 [(0, .inr (some 77)), (1, .inl (mkid I x2 0)), (2, .inl (I 103 (x1).toNat))] [] I (fun r5 I5 => r5 = none ∧ (Q none I5)))))))) : R 161 0 [(0, .inr (some 77)), (1, .inl x1), (2, .inl x2)] [] I Q := by
  exact wseg_sound pr_ok (cut := []) ok_161 400 true 0 _ _ _ h
set_option maxRecDepth 20000 in
theorem t162_0 {Q : Post} (I : Mem) (x1 : Int) (x2 : Int) (h : inb x1 (100) ∧ ((¬ (I 102 (x1).toNat) = 1 → (inb x1 (100) ∧ ((¬ (I 102 (x1).toNat) = 2 → (let J1 := upd2 I 77 39 (wrap ((I 77 39) - 1)); Q none J1)) ∧
  (¬ (¬ (I 102 (x1).toNat) = 2) → ((¬ (I 77 45) = 0 → (mkidP x2 2 ∧ (inb x1 (100) ∧ (R 160 0 [(0, .inr (some 77)), (1, .inl (mkid I x2 2)), (2, .inl (I 103 (x1).toNat))] [] I (fun r2 I2 => r2 = none ∧ (Q none I2)))))) ∧
   (¬ (¬ (I 77 45) = 0) → (mkidP x2 1 ∧ (inb x1 (100) ∧ (R 160 0 [(0, .inr (some 77)), (1, .inl (mkid I x2 1)), (2, .inl (I 103 (x1).toNat))] [] I (fun r3 I3 => r3 = none ∧ (Q none I3))))))))))) ∧
 (¬ (¬ (I 102 (x1).toNat) = 1) → (mkidP x2 0 ∧ (inb x1 (100) ∧ (R 160 0 [(0, .inr (some 77)), (1, .inl (mkid I x2 0)), (2, .inl (I 103 (x1).toNat))] [] I (fun r4 I4 => r4 = none ∧ (Q none I4)))))))) : R 162 0 [(0, .inr (some 77)), (1, .inl x1), (2, .inl x2)] [] I Q := by
  exact wseg_sound pr_ok (cut := []) ok_162 400 true 0 _ _ _ h
set_option maxRecDepth 20000 in
theorem t163_0 {Q : Post} (I : Mem) (x1 : Int) (x2 : Int) (h : inb x1 (100) ∧ ((¬ (I 102 (x1).toNat) = 1 → (inb x1 (100) ∧ ((¬ (I 102 (x1).toNat) = 2 → (let J1 := upd2 I 77 39 (wrap ((I 77 39) - 1)); Q none J1)) ∧
  (¬ (¬ (I 102 (x1).toNat) = 2) → (mkidP x2 1 ∧ (mfunP I x2 ∧ (inb x1 (100) ∧ (inb (I 77 43) 320 ∧ (let J2 := mkn I (mfun I x2) (I 77 45) (I 103 (x1).toNat); R 160 0 [(0, .inr (some 77)), (1, .inl (mkid I x2 1)), (2, .inl (wrap (wrap (I 77 43 + 1) - 1)))] [] J2 (fun r3 I3 => r3 = none ∧ (Q none I3))))))))))) ∧
 (¬ (¬ (I 102 (x1).toNat) = 1) → (mkidP x2 0 ∧ (inb x1 (100) ∧ (R 160 0 [(0, .inr (some 77)), (1, .inl (mkid I x2 0)), (2, .inl (I 103 (x1).toNat))] [] I (fun r4 I4 => r4 = none ∧ (Q none I4)))))))) : R 163 0 [(0, .inr (some 77)), (1, .inl x1), (2, .inl x2)] [] I Q := by
  exact wseg_sound pr_ok (cut := []) ok_163 400 true 0 _ _ _ h
set_option maxRecDepth 20000 in
theorem t164_0 {Q : Post} (I : Mem) (x1 : Int) (x2 : Int) (h : inb x1 (100) ∧ ((¬ (I 102 (x1).toNat) = 1 → (let J1 := upd2 I 77 39 (wrap ((I 77 39) - 1)); Q none J1)) ∧
 (¬ (¬ (I 102 (x1).toNat) = 1) → (mkidP x2 1 ∧ (mfunP I x2 ∧ (inb x1 (100) ∧ (inb (I 77 43) 320 ∧ (let J2 := mkn I (mfun I x2) x2 (I 103 (x1).toNat); R 160 0 [(0, .inr (some 77)), (1, .inl (mkid I x2 1)), (2, .inl (wrap (wrap (I 77 43 + 1) - 1)))] [] J2 (fun r3 I3 => r3 = none ∧ (Q none I3)))))))))) : R 164 0 [(0, .inr (some 77)), (1, .inl x1), (2, .inl x2)] [] I Q := by
  exact wseg_sound pr_ok (cut := []) ok_164 400 true 0 _ _ _ h
set_option maxRecDepth 20000 in
theorem t165_0 {Q : Post} (I : Mem) (x1 : Int) (x2 : Int) (h : (x2 = 0 → (RetB 1 I Q)) ∧
 (¬ (x2 = 0) → (inb x1 (60) ∧ ((¬ (I 96 (x1).toNat) = 0 → (RetB 0 I Q)) ∧
  (¬ (¬ (I 96 (x1).toNat) = 0) → ((x2 = 1 → (RetB 1 I Q)) ∧
   (¬ (x2 = 1) → (mfunP I x1 ∧ (inb (wrap ((mfun I x1) - 65)) 6 ∧ ((¬ (b2i (mjmp (I 99 (wrap ((mfun I x1) - 65)).toNat))) = 0 → (RetB 0 I Q)) ∧
    (¬ (¬ (b2i (mjmp (I 99 (wrap ((mfun I x1) - 65)).toNat))) = 0) → (RetB 1 I Q)))))))))))) : R 165 0 [(0, .inr (some 77)), (1, .inl x1), (2, .inl x2)] [] I Q := by
  exact wseg_sound pr_ok (cut := []) ok_165 400 true 0 _ _ _ h
set_option maxRecDepth 20000 in
theorem t166_0 {Q : Post} (I : Mem) (x1 : Int) (x2 : Int) (h : inb x1 (100) ∧ ((¬ (I 102 (x1).toNat) = 1 → (inb x1 (100) ∧ ((¬ (I 102 (x1).toNat) = 2 → (let J1 := upd2 I 77 48 (wrap ((I 77 48) - 1)); R 166 230 [(0, .inr (some 77)), (2, .inl x2), (3, .inl 0)] [] J1 Q)) ∧
  (¬ (¬ (I 102 (x1).toNat) = 2) → (let J2 := upd2 I 77 47 (wrap ((I 77 47) + 1)); let J3 := upd2 J2 77 48 (wrap ((J2 77 48) + 1)); ((J3 77 48) ≤ (J3 77 49) → (let J4 := upd2 J3 77 49 (J3 77 49); R 166 87 [(0, .inr (some 77)), (1, .inl x1), (2, .inl x2), (3, .inl 0)] [] J4 Q)) ∧
   (¬ ((J3 77 48) ≤ (J3 77 49)) → (let J5 := upd2 J3 77 49 (J3 77 48); R 166 87 [(0, .inr (some 77)), (1, .inl x1), (2, .inl x2), (3, .inl 0)] [] J5 Q))))))) ∧
 (¬ (¬ (I 102 (x1).toNat) = 1) → (mkidP x2 0 ∧ (inb x1 (100) ∧ (R 160 0 [(0, .inr (some 77)), (1, .inl (mkid I x2 0)), (2, .inl (I 103 (x1).toNat))] [] I (fun r6 I6 => r6 = none ∧ (Q none I6)))))))) : R 166 0 [(0, .inr (some 77)), (1, .inl x1), (2, .inl x2)] [] I Q := by
  exact wseg_sound pr_ok (cut := [(87, [0, 1, 2, 3]), (230, [0, 2, 3])]) ok_166 400 true 0 _ _ _ h
set_option maxRecDepth 20000 in
theorem t166_230 {Q : Post} (I : Mem) (x2 : Int) (x3 : Int) (h : (3 ≤ x3 → (let J1 := upd2 I 77 39 (wrap ((I 77 39) - 1)); Q none J1)) ∧
 (¬ (3 ≤ x3) → (inb x3 (3) ∧ (R 165 0 [(0, .inr (some 77)), (1, .inl x2), (2, .inl x3)] [] I (fun r2 I2 => ∃ v2, r2 = some (.inl v2) ∧ ((v2 = 0 → (inb x3 (3) ∧ (let J3 := upd2 I2 109 (x3).toNat (wrap ((I 109 (x3).toNat) - 0)); R 166 230 [(0, .inr (some 77)), (2, .inl x2), (3, .inl (wrap (x3 + 1)))] [] J3 Q))) ∧
  (¬ (v2 = 0) → (inb x3 (3) ∧ (let J4 := upd2 I2 109 (x3).toNat (wrap ((I 109 (x3).toNat) - 1)); R 166 230 [(0, .inr (some 77)), (2, .inl x2), (3, .inl (wrap (x3 + 1)))] [] J4 Q))))))))) : R 166 230 [(0, .inr (some 77)), (2, .inl x2), (3, .inl x3)] [] I Q := by
  exact wseg_sound pr_ok (cut := [(87, [0, 1, 2, 3]), (230, [0, 2, 3])]) ok_166 400 true 230 _ _ _ h
set_option maxRecDepth 20000 in
theorem t166_87 {Q : Post} (I : Mem) (x1 : Int) (x2 : Int) (x3 : Int) (h : (3 ≤ x3 → (mfunP I x2 ∧ (inb x1 (100) ∧ (R 159 0 [(0, .inr (some 77)), (1, .inl (mfun I x2)), (2, .inl (I 103 (x1).toNat))] [] I (fun r1 I1 => ∃ v1, r1 = some (.inl v1) ∧ (inb v1 (320) ∧ (mkidP (I1 106 (v1).toNat) 0 ∧ (inb (I1 106 (v1).toNat) (60) ∧ (inb (wrap ((I1 89 (I1 106 (v1).toNat).toNat) + 2)) (63) ∧ (inb (I1 77 43) 320 ∧ (let J2 := mkn I1 (I1 79 (wrap ((I1 89 (I1 106 (v1).toNat).toNat) + 2)).toNat) (I1 77 45) v1; R 160 0 [(0, .inr (some 77)), (1, .inl (mkid I1 (I1 106 (v1).toNat) 0)), (2, .inl (wrap (wrap (I1 77 43 + 1) - 1)))] [] J2 (fun r3 I3 => r3 = none ∧ (Q none I3))))))))))))) ∧
 (¬ (3 ≤ x3) → (inb x3 (3) ∧ (R 165 0 [(0, .inr (some 77)), (1, .inl x2), (2, .inl x3)] [] I (fun r4 I4 => ∃ v4, r4 = some (.inl v4) ∧ ((v4 = 0 → (inb x3 (3) ∧ (let J5 := upd2 I4 109 (x3).toNat (wrap ((I 109 (x3).toNat) + 0)); inb x3 (3) ∧ (inb x3 (3) ∧ (((J5 109 (x3).toNat) ≤ (J5 110 (x3).toNat) → (inb x3 (3) ∧ (inb x3 (3) ∧ (let J6 := upd2 J5 110 (x3).toNat (J5 110 (x3).toNat); R 166 87 [(0, .inr (some 77)), (1, .inl x1), (2, .inl x2), (3, .inl (wrap (x3 + 1)))] [] J6 Q)))) ∧
   (¬ ((J5 109 (x3).toNat) ≤ (J5 110 (x3).toNat)) → (inb x3 (3) ∧ (inb x3 (3) ∧ (let J7 := upd2 J5 110 (x3).toNat (J5 109 (x3).toNat); R 166 87 [(0, .inr (some 77)), (1, .inl x1), (2, .inl x2), (3, .inl (wrap (x3 + 1)))] [] J7 Q))))))))) ∧
  (¬ (v4 = 0) → (inb x3 (3) ∧ (let J8 := upd2 I4 109 (x3).toNat (wrap ((I 109 (x3).toNat) + 1)); inb x3 (3) ∧ (inb x3 (3) ∧ (((J8 109 (x3).toNat) ≤ (J8 110 (x3).toNat) → (inb x3 (3) ∧ (inb x3 (3) ∧ (let J9 := upd2 J8 110 (x3).toNat (J8 110 (x3).toNat); R 166 87 [(0, .inr (some 77)), (1, .inl x1), (2, .inl x2), (3, .inl (wrap (x3 + 1)))] [] J9 Q)))) ∧
   (¬ ((J8 109 (x3).toNat) ≤ (J8 110 (x3).toNat)) → (inb x3 (3) ∧ (inb x3 (3) ∧ (let J10 := upd2 J8 110 (x3).toNat (J8 109 (x3).toNat); R 166 87 [(0, .inr (some 77)), (1, .inl x1), (2, .inl x2), (3, .inl (wrap (x3 + 1)))] [] J10 Q))))))))))))))) : R 166 87 [(0, .inr (some 77)), (1, .inl x1), (2, .inl x2), (3, .inl x3)] [] I Q := by
  exact wseg_sound pr_ok (cut := [(87, [0, 1, 2, 3]), (230, [0, 2, 3])]) ok_166 400 true 87 _ _ _ h
set_option maxRecDepth 20000 in
theorem t167_0 {Q : Post} (I : Mem) (h : inb (wrap ((I 77 39) - 1)) (100) ∧ (mletP I (I 101 (wrap ((I 77 39) - 1)).toNat) ∧ (inb (wrap ((I 77 39) - 1)) (100) ∧ (inb (wrap ((I 77 39) - 1)) (100) ∧ (let J1 := upd2 I 102 (wrap ((I 77 39) - 1)).toNat (wrap ((I 102 (wrap ((I 77 39) - 1)).toNat) + 1)); ((b2i (isOpr (mlet I (I 101 (wrap ((I 77 39) - 1)).toNat)))) = 0 → ((¬ (mlet I (I 101 (wrap ((I 77 39) - 1)).toNat)) = 63 → ((¬ (mlet I (I 101 (wrap ((I 77 39) - 1)).toNat)) = 58 → ((¬ (mlet I (I 101 (wrap ((I 77 39) - 1)).toNat)) = 64 → ((¬ (mlet I (I 101 (wrap ((I 77 39) - 1)).toNat)) = 33 → (((b2i (isDig (mlet I (I 101 (wrap ((I 77 39) - 1)).toNat)))) = 0 → ((¬ (mlet I (I 101 (wrap ((I 77 39) - 1)).toNat)) = 120 → ((¬ (mlet I (I 101 (wrap ((I 77 39) - 1)).toNat)) = 121 → (inb (wrap ((I 77 39) - 1)) (100) ∧ (R 159 0 [(0, .inr (some 77)), (1, .inl (mlet I (I 101 (wrap ((I 77 39) - 1)).toNat))), (2, .inl (J1 103 (wrap ((I 77 39) - 1)).toNat))] [] J1 (fun r2 I2 => ∃ v2, r2 = some (.inl v2) ∧ (inb v2 (320) ∧ (let J3 := upd2 I2 77 45 (I2 106 (v2).toNat); let J4 := upd2 J3 77 39 (wrap ((J3 77 39) - 1)); Q none J4)))))) ∧
        (¬ (¬ (mlet I (I 101 (wrap ((I 77 39) - 1)).toNat)) = 121) → (let J5 := upd2 J1 77 45 (J1 77 54); let J6 := upd2 J5 77 39 (wrap ((J5 77 39) - 1)); Q none J6)))) ∧
       (¬ (¬ (mlet I (I 101 (wrap ((I 77 39) - 1)).toNat)) = 120) → (let J7 := upd2 J1 77 45 (J1 77 53); let J8 := upd2 J7 77 39 (wrap ((J7 77 39) - 1)); Q none J8)))) ∧
      (¬ ((b2i (isDig (mlet I (I 101 (wrap ((I 77 39) - 1)).toNat)))) = 0) → (let J9 := upd2 J1 77 45 (wrap ((mlet I (I 101 (wrap ((I 77 39) - 1)).toNat)) - 48)); let J10 := upd2 J9 77 39 (wrap ((J9 77 39) - 1)); Q none J10)))) ∧
     (¬ (¬ (mlet I (I 101 (wrap ((I 77 39) - 1)).toNat)) = 33) → (R 166 0 [(0, .inr (some 77)), (1, .inl (wrap ((I 77 39) - 1))), (2, .inl (I 101 (wrap ((I 77 39) - 1)).toNat))] [] J1 (fun r11 I11 => r11 = none ∧ (Q none I11)))))) ∧
    (¬ (¬ (mlet I (I 101 (wrap ((I 77 39) - 1)).toNat)) = 64) → (R 164 0 [(0, .inr (some 77)), (1, .inl (wrap ((I 77 39) - 1))), (2, .inl (I 101 (wrap ((I 77 39) - 1)).toNat))] [] J1 (fun r12 I12 => r12 = none ∧ (Q none I12)))))) ∧
   (¬ (¬ (mlet I (I 101 (wrap ((I 77 39) - 1)).toNat)) = 58) → (R 163 0 [(0, .inr (some 77)), (1, .inl (wrap ((I 77 39) - 1))), (2, .inl (I 101 (wrap ((I 77 39) - 1)).toNat))] [] J1 (fun r13 I13 => r13 = none ∧ (Q none I13)))))) ∧
  (¬ (¬ (mlet I (I 101 (wrap ((I 77 39) - 1)).toNat)) = 63) → (R 162 0 [(0, .inr (some 77)), (1, .inl (wrap ((I 77 39) - 1))), (2, .inl (I 101 (wrap ((I 77 39) - 1)).toNat))] [] J1 (fun r14 I14 => r14 = none ∧ (Q none I14)))))) ∧
 (¬ ((b2i (isOpr (mlet I (I 101 (wrap ((I 77 39) - 1)).toNat)))) = 0) → (R 161 0 [(0, .inr (some 77)), (1, .inl (wrap ((I 77 39) - 1))), (2, .inl (I 101 (wrap ((I 77 39) - 1)).toNat))] [] J1 (fun r15 I15 => r15 = none ∧ (Q none I15))))))))) : R 167 0 [(0, .inr (some 77))] [] I Q := by
  exact wseg_sound pr_ok (cut := []) ok_167 400 true 0 _ _ _ h
set_option maxRecDepth 20000 in
theorem t168_0 {Q : Post} (I : Mem) (x1 : Int) (x2 : Int) (h : let J1 := upd2 I 77 53 x1; let J2 := upd2 J1 77 54 x2; let J3 := upd2 J2 77 39 0; let J4 := upd2 J3 77 43 0; isB 0 ∧ (let J5 := upd2 J4 77 44 0; let J6 := upd2 J5 77 46 0; let J7 := upd2 J6 77 47 0; let J8 := upd2 J7 77 48 0; let J9 := upd2 J8 77 49 0; R 168 47 [(0, .inr (some 77)), (3, .inl 0)] [] J9 Q)) : R 168 0 [(0, .inr (some 77)), (1, .inl x1), (2, .inl x2)] [] I Q := by
  exact wseg_sound pr_ok (cut := [(47, [0, 3]), (68, [0, 3]), (100, [0])]) ok_168 400 true 0 _ _ _ h
set_option maxRecDepth 20000 in
theorem t168_47 {Q : Post} (I : Mem) (x3 : Int) (h : (60 ≤ x3 → (R 168 68 [(0, .inr (some 77)), (3, .inl 0)] [] I Q)) ∧
 (¬ (60 ≤ x3) → (inb x3 (60) ∧ (let J1 := upd2 I 108 (x3).toNat 0; R 168 47 [(0, .inr (some 77)), (3, .inl (wrap (x3 + 1)))] [] J1 Q)))) : R 168 47 [(0, .inr (some 77)), (3, .inl x3)] [] I Q := by
  exact wseg_sound pr_ok (cut := [(47, [0, 3]), (68, [0, 3]), (100, [0])]) ok_168 400 true 47 _ _ _ h
set_option maxRecDepth 20000 in
theorem t168_68 {Q : Post} (I : Mem) (x3 : Int) (h : (3 ≤ x3 → (R 160 0 [(0, .inr (some 77)), (1, .inl 0), (2, .inl (-9))] [] I (fun r1 I1 => r1 = none ∧ (R 168 100 [(0, .inr (some 77))] [] I1 Q)))) ∧
 (¬ (3 ≤ x3) → (inb x3 (3) ∧ (let J2 := upd2 I 109 (x3).toNat 0; inb x3 (3) ∧ (let J3 := upd2 J2 110 (x3).toNat 0; R 168 68 [(0, .inr (some 77)), (3, .inl (wrap (x3 + 1)))] [] J3 Q))))) : R 168 68 [(0, .inr (some 77)), (3, .inl x3)] [] I Q := by
  exact wseg_sound pr_ok (cut := [(47, [0, 3]), (68, [0, 3]), (100, [0])]) ok_168 400 true 68 _ _ _ h
set_option maxRecDepth 20000 in
theorem t168_100 {Q : Post} (I : Mem) (h : ((I 77 39) ≤ 0 → (Q none I)) ∧
 (¬ ((I 77 39) ≤ 0) → ((¬ (I 77 44) = 0 → (Q none I)) ∧
  (¬ (¬ (I 77 44) = 0) → (R 167 0 [(0, .inr (some 77))] [] I (fun r1 I1 => r1 = none ∧ (R 168 100 [(0, .inr (some 77))] [] I1 Q))))))) : R 168 100 [(0, .inr (some 77))] [] I Q := by
  exact wseg_sound pr_ok (cut := [(47, [0, 3]), (68, [0, 3]), (100, [0])]) ok_168 400 true 100 _ _ _ h
set_option maxRecDepth 20000 in
theorem t169_0 {Q : Post} (I : Mem) (h : let J1 := upd2 I 77 0 0; inb 61 (63) ∧ (inb 62 (63) ∧ (R 168 0 [(0, .inr (some 77)), (1, .inl (J1 79 (61 : Int).toNat)), (2, .inl (J1 79 (62 : Int).toNat))] [] J1 (fun r2 I2 => r2 = none ∧ (((I2 77 44) = 0 → (let J3 := upd2 I2 77 9 0; ((J3 77 44) = 0 → (Q (some (.inl (J3 77 45))) J3)) ∧
  (¬ ((J3 77 44) = 0) → (Q (some (.inl 0)) J3)))) ∧
 (¬ ((I2 77 44) = 0) → (let J4 := upd2 I2 77 9 1; ((J4 77 44) = 0 → (Q (some (.inl (J4 77 45))) J4)) ∧
  (¬ ((J4 77 44) = 0) → (Q (some (.inl 0)) J4))))))))) : R 169 0 [(0, .inr (some 77))] [] I Q := by
  exact wseg_sound pr_ok (cut := []) ok_169 400 true 0 _ _ _ h
set_option maxRecDepth 20000 in
theorem t170_0 {Q : Post} (I : Mem) (h : let J1 := upd2 I 77 0 0; Q (some (.inl (J1 77 9))) J1) : R 170 0 [(0, .inr (some 77))] [] I Q := by
  exact wseg_sound pr_ok (cut := []) ok_170 400 true 0 _ _ _ h
set_option maxRecDepth 20000 in
theorem t171_0 {Q : Post} (I : Mem) (x1 : Int) (h : let J1 := upd2 I 77 0 0; (¬ (b2i (inI x1 0 2)) = 0 → (inb 61 (63) ∧ (inb 62 (63) ∧ (R 168 0 [(0, .inr (some 77)), (1, .inl (J1 79 (61 : Int).toNat)), (2, .inl (J1 79 (62 : Int).toNat))] [] J1 (fun r2 I2 => r2 = none ∧ (((I2 77 44) = 0 → ((¬ x1 = 0 → ((¬ x1 = 1 → (Q (some (.inl (I2 77 49))) I2)) ∧
    (¬ (¬ x1 = 1) → (Q (some (.inl (I2 77 47))) I2)))) ∧
   (¬ (¬ x1 = 0) → (Q (some (.inl (I2 77 46))) I2)))) ∧
  (¬ ((I2 77 44) = 0) → (Q (some (.inl (-9))) I2)))))))) ∧
 (¬ (¬ (b2i (inI x1 0 2)) = 0) → (Q (some (.inl (-1))) J1))) : R 171 0 [(0, .inr (some 77)), (1, .inl x1)] [] I Q := by
  exact wseg_sound pr_ok (cut := []) ok_171 400 true 0 _ _ _ h
set_option maxRecDepth 20000 in
theorem t172_0 {Q : Post} (I : Mem) (x1 : Int) (h : let J1 := upd2 I 77 0 0; (¬ (b2i (inI x1 0 2)) = 0 → (inb 61 (63) ∧ (inb 62 (63) ∧ (R 168 0 [(0, .inr (some 77)), (1, .inl (J1 79 (61 : Int).toNat)), (2, .inl (J1 79 (62 : Int).toNat))] [] J1 (fun r2 I2 => r2 = none ∧ (((I2 77 44) = 0 → (inb x1 (3) ∧ (Q (some (.inl (I2 110 (x1).toNat))) I2))) ∧
  (¬ ((I2 77 44) = 0) → (Q (some (.inl (-9))) I2)))))))) ∧
 (¬ (¬ (b2i (inI x1 0 2)) = 0) → (Q (some (.inl (-1))) J1))) : R 172 0 [(0, .inr (some 77)), (1, .inl x1)] [] I Q := by
  exact wseg_sound pr_ok (cut := []) ok_172 400 true 0 _ _ _ h
set_option maxRecDepth 20000 in
theorem t173_0 {Q : Post} (I : Mem) (x1 : Int) (h : let J1 := upd2 I 77 0 0; (¬ (b2i (inI x1 0 (wrap (J1 77 20 - 1)))) = 0 → (inb 61 (63) ∧ (inb 62 (63) ∧ (R 168 0 [(0, .inr (some 77)), (1, .inl (J1 79 (61 : Int).toNat)), (2, .inl (J1 79 (62 : Int).toNat))] [] J1 (fun r2 I2 => r2 = none ∧ (((I2 77 44) = 0 → (inb x1 (60) ∧ (Q (some (.inl (I2 108 (x1).toNat))) I2))) ∧
  (¬ ((I2 77 44) = 0) → (Q (some (.inl (-9))) I2)))))))) ∧
 (¬ (¬ (b2i (inI x1 0 (wrap (J1 77 20 - 1)))) = 0) → (Q (some (.inl (-1))) J1))) : R 173 0 [(0, .inr (some 77)), (1, .inl x1)] [] I Q := by
  exact wseg_sound pr_ok (cut := []) ok_173 400 true 0 _ _ _ h
set_option maxRecDepth 20000 in
theorem t174_0 {Q : Post} (I : Mem) (x1 : Int) (x2 : Int) (h : let J1 := upd2 I 77 0 0; (¬ (J1 77 11) = 3 → (inb (wrap (2 * (J1 77 11))) (6) ∧ (let J2 := upd2 J1 84 (wrap (2 * (J1 77 11))).toNat x1; inb (wrap ((wrap (2 * (J2 77 11))) + 1)) (6) ∧ (let J3 := upd2 J2 84 (wrap ((wrap (2 * (J2 77 11))) + 1)).toNat x2; let J4 := upd2 J3 77 11 (wrap ((J3 77 11) + 1)); Q (some (.inl (J4 77 11))) J4)))) ∧
 (¬ (¬ (J1 77 11) = 3) → (Q (some (.inl (-3))) J1))) : R 174 0 [(0, .inr (some 77)), (1, .inl x1), (2, .inl x2)] [] I Q := by
  exact wseg_sound pr_ok (cut := []) ok_174 400 true 0 _ _ _ h
set_option maxRecDepth 20000 in
theorem t175_0 {Q : Post} (I : Mem) (h : let J1 := upd2 I 77 0 0; let J2 := upd2 J1 77 11 0; Q (some (.inl (J1 77 11))) J2) : R 175 0 [(0, .inr (some 77))] [] I Q := by
  exact wseg_sound pr_ok (cut := []) ok_175 400 true 0 _ _ _ h
set_option maxRecDepth 20000 in
theorem t176_0 {Q : Post} (I : Mem) (x1 : Int) (x2 : Int) (h : inb (wrap (2 * x2)) (6) ∧ (R 168 0 [(0, .inr (some 77)), (1, .inl x1), (2, .inl (I 84 (wrap (2 * x2)).toNat))] [] I (fun r1 I1 => r1 = none ∧ ((¬ (I1 77 44) = 0 → (RetB 0 I1 Q)) ∧
 (¬ (¬ (I1 77 44) = 0) → (inb (wrap ((wrap (2 * x2)) + 1)) (6) ∧ ((¬ (I1 77 45) = (I1 84 (wrap ((wrap (2 * x2)) + 1)).toNat) → (RetB 0 I1 Q)) ∧
  (¬ (¬ (I1 77 45) = (I1 84 (wrap ((wrap (2 * x2)) + 1)).toNat)) → (RetB 1 I1 Q))))))))) : R 176 0 [(0, .inr (some 77)), (1, .inl x1), (2, .inl x2)] [] I Q := by
  exact wseg_sound pr_ok (cut := []) ok_176 400 true 0 _ _ _ h
set_option maxRecDepth 20000 in
theorem t177_0 {Q : Post} (I : Mem) (h : let J1 := upd2 I 77 0 0; R 177 9 [(0, .inr (some 77)), (1, .inl 0), (2, .inl 0)] [] J1 Q) : R 177 0 [(0, .inr (some 77))] [] I Q := by
  exact wseg_sound pr_ok (cut := [(9, [0, 1, 2]), (20, [0, 1, 2, 3, 4])]) ok_177 400 true 0 _ _ _ h
set_option maxRecDepth 20000 in
theorem t177_9 {Q : Post} (I : Mem) (x1 : Int) (x2 : Int) (h : (10 ≤ x2 → (Q (some (.inl x1)) I)) ∧
 (¬ (10 ≤ x2) → (R 177 20 [(0, .inr (some 77)), (1, .inl x1), (2, .inl x2), (3, .inl 1), (4, .inl 0)] [] I Q))) : R 177 9 [(0, .inr (some 77)), (1, .inl x1), (2, .inl x2)] [] I Q := by
  exact wseg_sound pr_ok (cut := [(9, [0, 1, 2]), (20, [0, 1, 2, 3, 4])]) ok_177 400 true 9 _ _ _ h
set_option maxRecDepth 20000 in
theorem t177_20 {Q : Post} (I : Mem) (x1 : Int) (x2 : Int) (x3 : Int) (x4 : Int) (h : ((I 77 11) ≤ x4 → ((x3 = 0 → (R 177 9 [(0, .inr (some 77)), (1, .inl (ior x1 0)), (2, .inl (wrap (x2 + 1)))] [] I Q)) ∧
  (¬ (x3 = 0) → (R 177 9 [(0, .inr (some 77)), (1, .inl (ior x1 (ishl 1 x2))), (2, .inl (wrap (x2 + 1)))] [] I Q)))) ∧
 (¬ ((I 77 11) ≤ x4) → ((x3 = 0 → (R 177 20 [(0, .inr (some 77)), (1, .inl x1), (2, .inl x2), (3, .inl 0), (4, .inl (wrap (x4 + 1)))] [] I Q)) ∧
  (¬ (x3 = 0) → (R 176 0 [(0, .inr (some 77)), (1, .inl x2), (2, .inl x4)] [] I (fun r1 I1 => ∃ v1, r1 = some (.inl v1) ∧ ((v1 = 0 → (R 177 20 [(0, .inr (some 77)), (1, .inl x1), (2, .inl x2), (3, .inl 0), (4, .inl (wrap (x4 + 1)))] [] I1 Q)) ∧
   (¬ (v1 = 0) → (R 177 20 [(0, .inr (some 77)), (1, .inl x1), (2, .inl x2), (3, .inl 1), (4, .inl (wrap (x4 + 1)))] [] I1 Q))))))))) : R 177 20 [(0, .inr (some 77)), (1, .inl x1), (2, .inl x2), (3, .inl x3), (4, .inl x4)] [] I Q := by
  exact wseg_sound pr_ok (cut := [(9, [0, 1, 2]), (20, [0, 1, 2, 3, 4])]) ok_177 400 true 20 _ _ _ h
set_option maxRecDepth 20000 in
theorem t178_0 {Q : Post} (I : Mem) (x1 : Int) (h : let J1 := upd2 I 77 0 0; (¬ (b2i (inI x1 0 1)) = 0 → (R 178 18 [(0, .inr (some 77)), (1, .inl x1), (2, .inl 0)] [] J1 Q)) ∧
 (¬ (¬ (b2i (inI x1 0 1)) = 0) → (Q (some (.inl (-1))) J1))) : R 178 0 [(0, .inr (some 77)), (1, .inl x1)] [] I Q := by
  exact wseg_sound pr_ok (cut := [(18, [0, 1, 2])]) ok_178 400 true 0 _ _ _ h
set_option maxRecDepth 20000 in
theorem t178_18 {Q : Post} (I : Mem) (x1 : Int) (x2 : Int) (h : (63 ≤ x2 → (inb x1 (2) ∧ isB 1 ∧ (let J1 := upd2 I 82 (x1).toNat 1; Q (some (.inl (J1 77 20))) J1))) ∧
 (¬ (63 ≤ x2) → (inb x2 (63) ∧ (inb (wrap ((wrap (63 * x1)) + x2)) (126) ∧ (let J2 := upd2 I 81 (wrap ((wrap (63 * x1)) + x2)).toNat (I 79 (x2).toNat); R 178 18 [(0, .inr (some 77)), (1, .inl x1), (2, .inl (wrap (x2 + 1)))] [] J2 Q))))) : R 178 18 [(0, .inr (some 77)), (1, .inl x1), (2, .inl x2)] [] I Q := by
  exact wseg_sound pr_ok (cut := [(18, [0, 1, 2])]) ok_178 400 true 18 _ _ _ h
set_option maxRecDepth 20000 in
theorem t179_0 {Q : Post} (I : Mem) (x1 : Int) (h : let J1 := upd2 I 77 0 0; (¬ (b2i (inI x1 0 1)) = 0 → (inb x1 (2) ∧ ((¬ (J1 82 (x1).toNat) = 0 → (R 179 30 [(0, .inr (some 77)), (1, .inl x1), (2, .inl 0)] [] J1 Q)) ∧
  (¬ (¬ (J1 82 (x1).toNat) = 0) → (Q (some (.inl (-2))) J1))))) ∧
 (¬ (¬ (b2i (inI x1 0 1)) = 0) → (Q (some (.inl (-1))) J1))) : R 179 0 [(0, .inr (some 77)), (1, .inl x1)] [] I Q := by
  exact wseg_sound pr_ok (cut := [(30, [0, 1, 2])]) ok_179 400 true 0 _ _ _ h
set_option maxRecDepth 20000 in
theorem t179_30 {Q : Post} (I : Mem) (x1 : Int) (x2 : Int) (h : (63 ≤ x2 → (let J1 := upd2 I 77 5 0; R 127 0 [(0, .inr (some 77))] [] J1 (fun r2 I2 => r2 = none ∧ (Q (some (.inl (I2 77 20))) I2)))) ∧
 (¬ (63 ≤ x2) → (inb (wrap ((wrap (63 * x1)) + x2)) (126) ∧ (inb x2 (63) ∧ (let J3 := upd2 I 79 (x2).toNat (I 81 (wrap ((wrap (63 * x1)) + x2)).toNat); R 179 30 [(0, .inr (some 77)), (1, .inl x1), (2, .inl (wrap (x2 + 1)))] [] J3 Q))))) : R 179 30 [(0, .inr (some 77)), (1, .inl x1), (2, .inl x2)] [] I Q := by
  exact wseg_sound pr_ok (cut := [(30, [0, 1, 2])]) ok_179 400 true 30 _ _ _ h
set_option maxRecDepth 20000 in
theorem t180_0 {Q : Post} (I : Mem) (x1 : Int) (h : let J1 := upd2 I 77 0 0; (¬ (b2i (inI x1 0 5)) = 0 → (R 180 23 [(0, .inr (some 77)), (1, .inl x1), (2, .inl 0), (3, .inl 0), (4, .inl 0)] [] J1 Q)) ∧
 (¬ (¬ (b2i (inI x1 0 5)) = 0) → (Q (some (.inl (-1))) J1))) : R 180 0 [(0, .inr (some 77)), (1, .inl x1)] [] I Q := by
  exact wseg_sound pr_ok (cut := [(23, [0, 1, 2, 3, 4])]) ok_180 400 true 0 _ _ _ h
set_option maxRecDepth 20000 in
theorem t180_23 {Q : Post} (I : Mem) (x1 : Int) (x2 : Int) (x3 : Int) (x4 : Int) (h : ((I 77 20) ≤ x4 → ((¬ x1 = 0 → ((¬ x1 = 1 → ((¬ x1 = 2 → ((¬ x1 = 3 → ((¬ x1 = 4 → (Q (some (.inl (I 77 5))) I)) ∧
      (¬ (¬ x1 = 4) → (Q (some (.inl (I 77 2))) I)))) ∧
     (¬ (¬ x1 = 3) → (Q (some (.inl (I 77 11))) I)))) ∧
    (¬ (¬ x1 = 2) → (Q (some (.inl x3)) I)))) ∧
   (¬ (¬ x1 = 1) → (Q (some (.inl x2)) I)))) ∧
  (¬ (¬ x1 = 0) → (Q (some (.inl (I 77 20))) I)))) ∧
 (¬ ((I 77 20) ≤ x4) → (mletP I x4 ∧ ((¬ (mlet I x4) = 64 → (R 180 23 [(0, .inr (some 77)), (1, .inl x1), (2, .inl x2), (3, .inl x3), (4, .inl (wrap (x4 + 1)))] [] I Q)) ∧
  (¬ (¬ (mlet I x4) = 64) → (mfunP I x4 ∧ (inb (wrap ((mfun I x4) - 65)) 6 ∧ (((b2i (mjmp (I 99 (wrap ((mfun I x4) - 65)).toNat))) = 0 → (R 180 23 [(0, .inr (some 77)), (1, .inl x1), (2, .inl (wrap (x2 + 1))), (3, .inl (wrap (x3 + 0))), (4, .inl (wrap (x4 + 1)))] [] I Q)) ∧
   (¬ ((b2i (mjmp (I 99 (wrap ((mfun I x4) - 65)).toNat))) = 0) → (R 180 23 [(0, .inr (some 77)), (1, .inl x1), (2, .inl (wrap (x2 + 1))), (3, .inl (wrap (x3 + 1))), (4, .inl (wrap (x4 + 1)))] [] I Q)))))))))) : R 180 23 [(0, .inr (some 77)), (1, .inl x1), (2, .inl x2), (3, .inl x3), (4, .inl x4)] [] I Q := by
  exact wseg_sound pr_ok (cut := [(23, [0, 1, 2, 3, 4])]) ok_180 400 true 23 _ _ _ h
set_option maxRecDepth 20000 in
theorem t181_0 {Q : Post} (I : Mem) (x1 : Int) (h : let J1 := upd2 I 77 0 0; (¬ x1 = 0 → ((¬ x1 = 1 → (Q (some (.inl 0)) J1)) ∧
  (¬ (¬ x1 = 1) → (inb 62 (63) ∧ (Q (some (.inl (J1 79 (62 : Int).toNat))) J1))))) ∧
 (¬ (¬ x1 = 0) → (inb 61 (63) ∧ (Q (some (.inl (J1 79 (61 : Int).toNat))) J1)))) : R 181 0 [(0, .inr (some 77)), (1, .inl x1)] [] I Q := by
  exact wseg_sound pr_ok (cut := []) ok_181 400 true 0 _ _ _ h
