set_option maxRecDepth 20000 in
theorem t38_0 {Q : Post} (m : Nat) (sg : Nat) (hp : (m = 7 ∧ (sg = 3 ∨ sg = 38 ∨ sg = 54 ∨ sg = 56 ∨ sg = 58 ∨ sg = 60 ∨ sg = 62 ∨ sg = 64 ∨ sg = 66 ∨ sg = 68 ∨ sg = 71 ∨ sg = 73)) ∨ (sg = 8 ∧ (m = 53 ∨ m = 55 ∨ m = 57 ∨ m = 59 ∨ m = 61 ∨ m = 63 ∨ m = 65 ∨ m = 67 ∨ m = 70 ∨ m = 72))) (I : Mem) (x2 : Int) (h : let J1 := upd2 I m 1 (min x2 60); R 38 12 [(0, .inr (some m)), (1, .inr (some sg)), (3, .inl 0)] [] J1 Q) : R 38 0 [(0, .inr (some m)), (1, .inr (some sg)), (2, .inl x2)] [] I Q := by
  rcases hp with ⟨rfl, rfl | rfl | rfl | rfl | rfl | rfl | rfl | rfl | rfl | rfl | rfl | rfl⟩ | ⟨rfl, rfl | rfl | rfl | rfl | rfl | rfl | rfl | rfl | rfl | rfl⟩ <;> exact wseg_sound pr_ok (cut := [(12, [0, 1, 3])]) ok_38 400 true 0 _ _ _ h
set_option maxRecDepth 20000 in
theorem t38_12 {Q : Post} (m : Nat) (sg : Nat) (hp : (m = 7 ∧ (sg = 3 ∨ sg = 38 ∨ sg = 54 ∨ sg = 56 ∨ sg = 58 ∨ sg = 60 ∨ sg = 62 ∨ sg = 64 ∨ sg = 66 ∨ sg = 68 ∨ sg = 71 ∨ sg = 73)) ∨ (sg = 8 ∧ (m = 53 ∨ m = 55 ∨ m = 57 ∨ m = 59 ∨ m = 61 ∨ m = 63 ∨ m = 65 ∨ m = 67 ∨ m = 70 ∨ m = 72))) (I : Mem) (x3 : Int) (h : ((I m 1) ≤ x3 → (Q none I)) ∧
 (¬ ((I m 1) ≤ x3) → (let J1 := wr I (m + 1) x3 (rd I sg x3); R 38 12 [(0, .inr (some m)), (1, .inr (some sg)), (3, .inl (wrap (x3 + 1)))] [] J1 Q))) : R 38 12 [(0, .inr (some m)), (1, .inr (some sg)), (3, .inl x3)] [] I Q := by
  rcases hp with ⟨rfl, rfl | rfl | rfl | rfl | rfl | rfl | rfl | rfl | rfl | rfl | rfl | rfl⟩ | ⟨rfl, rfl | rfl | rfl | rfl | rfl | rfl | rfl | rfl | rfl | rfl⟩ <;> exact wseg_sound pr_ok (cut := [(12, [0, 1, 3])]) ok_38 400 true 12 _ _ _ h
set_option maxRecDepth 20000 in
theorem t39_0 {Q : Post} (m : Nat) (o : Nat) (hp : (m = 7 ∧ (o = 53 ∨ o = 55 ∨ o = 57 ∨ o = 59 ∨ o = 61 ∨ o = 63 ∨ o = 65 ∨ o = 67 ∨ o = 70 ∨ o = 72)) ∨ (o = 7 ∧ (m = 53 ∨ m = 55 ∨ m = 57 ∨ m = 59 ∨ m = 61 ∨ m = 63 ∨ m = 65 ∨ m = 67 ∨ m = 70 ∨ m = 72))) (I : Mem) (h : R 38 0 [(0, .inr (some m)), (1, .inr (some (o + 1))), (2, .inl (I o 1))] [] I (fun r1 I1 => r1 = none ∧ (let J2 := upd2 I1 m 2 (I1 o 2); let J3 := upd2 J2 m 3 (J2 o 3); Q none J3))) : R 39 0 [(0, .inr (some m)), (1, .inr (some o))] [] I Q := by
  rcases hp with ⟨rfl, rfl | rfl | rfl | rfl | rfl | rfl | rfl | rfl | rfl | rfl⟩ | ⟨rfl, rfl | rfl | rfl | rfl | rfl | rfl | rfl | rfl | rfl | rfl⟩ <;> exact wseg_sound pr_ok (cut := []) ok_39 400 true 0 _ _ _ h
set_option maxRecDepth 20000 in
theorem t13_0 {Q : Post} (I : Mem) (h : (¬ (I 51 2) = 8 → (¬ (8 : Int) = 0 ∧ (R 105 0 [(0, .inr (some 52)), (1, .inl (irem (wrap ((I 51 1) + (I 51 2))) 8))] [] I (fun r1 I1 => R 13 51 [(0, .inr (some 51)), (1, .inr (some 7))] (r1.toList ++ []) I1 Q)))) ∧
 (¬ (¬ (I 51 2) = 8) → (¬ (8 : Int) = 0 ∧ (let J2 := upd2 I 51 1 (irem (wrap ((I 51 1) + 1)) 8); let J3 := upd2 J2 51 2 (wrap ((J2 51 2) - 1)); ¬ (8 : Int) = 0 ∧ (R 105 0 [(0, .inr (some 52)), (1, .inl (irem (wrap ((J3 51 1) + (J3 51 2))) 8))] [] J3 (fun r4 I4 => R 13 51 [(0, .inr (some 51)), (1, .inr (some 7))] (r4.toList ++ []) I4 Q)))))) : R 13 0 [(0, .inr (some 51)), (1, .inr (some 7))] [] I Q := by
  exact wseg_sound pr_ok (cut := []) ok_13 400 true 0 _ _ _ h
set_option maxRecDepth 20000 in
theorem t14_0 {Q : Post} (I : Mem) (h : (¬ (I 51 2) = 0 → (let J1 := upd2 I 51 2 (wrap ((I 51 2) - 1)); ¬ (8 : Int) = 0 ∧ (R 105 0 [(0, .inr (some 52)), (1, .inl (irem (wrap ((J1 51 1) + (J1 51 2))) 8))] [] J1 (fun r2 I2 => R 14 37 [(0, .inr (some 51)), (1, .inr (some 7))] (r2.toList ++ []) I2 Q)))) ∧
 (¬ (¬ (I 51 2) = 0) → (Q none I))) : R 14 0 [(0, .inr (some 51)), (1, .inr (some 7))] [] I Q := by
  exact wseg_sound pr_ok (cut := []) ok_14 400 true 0 _ _ _ h
set_option maxRecDepth 20000 in
theorem t97_0 {Q : Post} (I : Mem) (x1 : Int) (h : R 105 0 [(0, .inr (some 69)), (1, .inl x1)] [] I (fun r1 I1 => R 97 8 [(0, .inr (some 0)), (1, .inl x1)] (r1.toList ++ []) I1 Q)) : R 97 0 [(0, .inr (some 0)), (1, .inl x1)] [] I Q := by
  exact wseg_sound pr_ok (cut := []) ok_97 400 true 0 _ _ _ h
set_option maxRecDepth 20000 in
theorem t98_0 {Q : Post} (I : Mem) (x1 : Int) (h : R 105 0 [(0, .inr (some 69)), (1, .inl x1)] [] I (fun r1 I1 => R 98 8 [(0, .inr (some 0)), (1, .inl x1)] (r1.toList ++ []) I1 Q)) : R 98 0 [(0, .inr (some 0)), (1, .inl x1)] [] I Q := by
  exact wseg_sound pr_ok (cut := []) ok_98 400 true 0 _ _ _ h
set_option maxRecDepth 20000 in
theorem t13_51m {Q : Post} (m : Nat) (hm : m = 53 ∨ m = 55 ∨ m = 57 ∨ m = 59 ∨ m = 61 ∨ m = 63 ∨ m = 65 ∨ m = 67) (I : Mem) (h : R 39 0 [(0, .inr (some m)), (1, .inr (some 7))] [] I (fun r1 I1 => r1 = none ∧ (let J2 := upd2 I1 51 2 (wrap ((I1 51 2) + 1)); Q none J2))) : R 13 51 [(0, .inr (some 51)), (1, .inr (some 7))] [.inr (some m)] I Q := by
  rcases hm with rfl | rfl | rfl | rfl | rfl | rfl | rfl | rfl <;> exact wseg_sound pr_ok (cut := []) ok_13 400 true 51 _ _ _ h
set_option maxRecDepth 20000 in
theorem t14_37m {Q : Post} (m : Nat) (hm : m = 53 ∨ m = 55 ∨ m = 57 ∨ m = 59 ∨ m = 61 ∨ m = 63 ∨ m = 65 ∨ m = 67) (I : Mem) (h : R 39 0 [(0, .inr (some 7)), (1, .inr (some m))] [] I (fun r1 I1 => r1 = none ∧ (Q none I1))) : R 14 37 [(0, .inr (some 51)), (1, .inr (some 7))] [.inr (some m)] I Q := by
  rcases hm with rfl | rfl | rfl | rfl | rfl | rfl | rfl | rfl <;> exact wseg_sound pr_ok (cut := []) ok_14 400 true 37 _ _ _ h
set_option maxRecDepth 20000 in
theorem t97_8m {Q : Post} (m : Nat) (hm : m = 70 ∨ m = 72) (I : Mem) (x1 : Int) (h : R 39 0 [(0, .inr (some m)), (1, .inr (some 7))] [] I (fun r1 I1 => r1 = none ∧ (let J2 := wr I1 74 x1 1; Q (some (.inl (J2 9 0))) J2))) : R 97 8 [(0, .inr (some 0)), (1, .inl x1)] [.inr (some m)] I Q := by
  rcases hm with rfl | rfl <;> exact wseg_sound pr_ok (cut := []) ok_97 400 true 8 _ _ _ h
set_option maxRecDepth 20000 in
theorem t97_8n {Q : Post} (I : Mem) (x1 : Int) (h : Q (some (.inl (-1))) I) : R 97 8 [(0, .inr (some 0)), (1, .inl x1)] [.inr none] I Q := by
  exact wseg_sound pr_ok (cut := []) ok_97 400 true 8 _ _ _ h
set_option maxRecDepth 20000 in
theorem t98_8m {Q : Post} (m : Nat) (hm : m = 70 ∨ m = 72) (I : Mem) (x1 : Int) (h : (¬ (rd I 74 x1) = 0 → (R 39 0 [(0, .inr (some 7)), (1, .inr (some m))] [] I (fun r1 I1 => r1 = none ∧ (let J2 := upd2 I1 51 2 0; R 101 0 [(0, .inr (some 0))] [] J2 (fun r3 I3 => r3 = none ∧ (Q (some (.inl (I3 9 0))) I3)))))) ∧
 (¬ (¬ (rd I 74 x1) = 0) → (Q (some (.inl (-2))) I))) : R 98 8 [(0, .inr (some 0)), (1, .inl x1)] [.inr (some m)] I Q := by
  rcases hm with rfl | rfl <;> exact wseg_sound pr_ok (cut := []) ok_98 400 true 8 _ _ _ h
set_option maxRecDepth 20000 in
theorem t98_8n {Q : Post} (I : Mem) (x1 : Int) (h : Q (some (.inl (-1))) I) : R 98 8 [(0, .inr (some 0)), (1, .inl x1)] [.inr none] I Q := by
  exact wseg_sound pr_ok (cut := []) ok_98 400 true 8 _ _ _ h
