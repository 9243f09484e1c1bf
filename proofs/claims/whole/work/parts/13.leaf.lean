/-! The leaves: what they answer. -/
def b2i (b : Bool) : Int := cond b 1 0
theorem b2i_t {b : Bool} (h : b = true) : b2i b = 1 := by rw [h]; rfl
theorem b2i_f {b : Bool} (h : b = false) : b2i b = 0 := by rw [h]; rfl
theorem b2i_0 {b : Bool} : b2i b = 0 ↔ b = false := by cases b <;> simp [b2i]
theorem b2i_1 {b : Bool} : b2i b = 1 ↔ b = true := by cases b <;> simp [b2i]
theorem isB_b2i (b : Bool) : isB (b2i b) := by cases b; exact Or.inl rfl; exact Or.inr rfl
def isDig (c : Int) : Bool := decide (48 ≤ c) && decide (c ≤ 57)
def isVal (c : Int) : Bool := decide (97 ≤ c) && decide (c ≤ 104)
def isFun (c : Int) : Bool := decide (65 ≤ c) && decide (c ≤ 70)
def isInp (c : Int) : Bool := decide (c = 120) || decide (c = 121)
def isOpr (c : Int) : Bool := decide (c = 43) || decide (c = 45) || decide (c = 42)
def pts (c : Int) : Nat := if isOpr c = true ∨ c = 58 ∨ c = 64 then 2 else if c = 63 then 3 else if c = 33 then 1 else 0
def hds (c : Int) : Nat := if c = 64 then 3 else if c = 58 ∨ c = 33 then 2 else 1
def oper (op a b : Int) : Int := if op = 43 then wrap (a + b) else if op = 45 then wrap (a - b) else wrap (a * b)
def bitc (c : Int) : Int := if isVal c = true then ishl 1 (wrap (c - 97)) else if isFun c = true then ishl 1 (wrap (wrap (8 + c) - 65)) else 0
def jmp (v : Int) : Bool := !(decide (v = -11)) && !(decide (v = -12))
def inI (v lo hi : Int) : Bool := decide (lo ≤ v) && decide (v ≤ hi)
def mlet (I : Mem) (p : Int) : Int := I 79 (I 89 p.toNat).toNat
def mletP (I : Mem) (p : Int) : Prop := inb p 60 ∧ inb (I 89 p.toNat) 63
def mfun (I : Mem) (p : Int) : Int := I 79 (wrap (I 89 p.toNat + 1)).toNat
def mfunP (I : Mem) (p : Int) : Prop := inb p 60 ∧ inb (wrap (I 89 p.toNat + 1)) 63
def mkid (I : Mem) (p k : Int) : Int := I 94 (wrap (wrap (3 * p) + k)).toNat
def mkidP (p k : Int) : Prop := inb (wrap (wrap (3 * p) + k)) 180
def mjmp (v : Int) : Bool := decide (v = -13) || decide (0 ≤ v)
theorem t15_0 {Q : Post} (I : Mem) (x0 : Int) (h : (x0 < 48 → (RetB 0 I Q)) ∧
 (¬ (x0 < 48) → ((57 < x0 → (RetB 0 I Q)) ∧
  (¬ (57 < x0) → (RetB 1 I Q))))) : R 15 0 [(0, .inl x0)] [] I Q := by
  exact wseg_sound pAtPut_ok (cut := []) ok_15 400 true 0 _ _ _ h
theorem t16_0 {Q : Post} (I : Mem) (x0 : Int) (h : (x0 < 97 → (RetB 0 I Q)) ∧
 (¬ (x0 < 97) → ((104 < x0 → (RetB 0 I Q)) ∧
  (¬ (104 < x0) → (RetB 1 I Q))))) : R 16 0 [(0, .inl x0)] [] I Q := by
  exact wseg_sound pAtPut_ok (cut := []) ok_16 400 true 0 _ _ _ h
theorem t17_0 {Q : Post} (I : Mem) (x0 : Int) (h : (x0 < 65 → (RetB 0 I Q)) ∧
 (¬ (x0 < 65) → ((70 < x0 → (RetB 0 I Q)) ∧
  (¬ (70 < x0) → (RetB 1 I Q))))) : R 17 0 [(0, .inl x0)] [] I Q := by
  exact wseg_sound pAtPut_ok (cut := []) ok_17 400 true 0 _ _ _ h
theorem t18_0 {Q : Post} (I : Mem) (x0 : Int) (h : (x0 = 120 → (RetB 1 I Q)) ∧
 (¬ (x0 = 120) → ((¬ x0 = 121 → (RetB 0 I Q)) ∧
  (¬ (¬ x0 = 121) → (RetB 1 I Q))))) : R 18 0 [(0, .inl x0)] [] I Q := by
  exact wseg_sound pAtPut_ok (cut := []) ok_18 400 true 0 _ _ _ h
theorem t19_0 {Q : Post} (I : Mem) (x0 : Int) (h : (x0 = 43 → (RetB 1 I Q)) ∧
 (¬ (x0 = 43) → ((x0 = 45 → (RetB 1 I Q)) ∧
  (¬ (x0 = 45) → ((¬ x0 = 42 → (RetB 0 I Q)) ∧
   (¬ (¬ x0 = 42) → (RetB 1 I Q))))))) : R 19 0 [(0, .inl x0)] [] I Q := by
  exact wseg_sound pAtPut_ok (cut := []) ok_19 400 true 0 _ _ _ h
theorem t20_0 {Q : Post} (I : Mem) (x0 : Int) (h : R 19 0 [(0, .inl x0)] [] I (fun r1 I1 => ∃ v1, r1 = some (.inl v1) ∧ ((¬ v1 = 0 → (Q (some (.inl 2)) I1)) ∧
 (¬ (¬ v1 = 0) → ((x0 = 58 → (Q (some (.inl 2)) I1)) ∧
  (¬ (x0 = 58) → ((¬ x0 = 64 → ((¬ x0 = 63 → ((¬ x0 = 33 → (Q (some (.inl 0)) I1)) ∧
     (¬ (¬ x0 = 33) → (Q (some (.inl 1)) I1)))) ∧
    (¬ (¬ x0 = 63) → (Q (some (.inl 3)) I1)))) ∧
   (¬ (¬ x0 = 64) → (Q (some (.inl 2)) I1))))))))) : R 20 0 [(0, .inl x0)] [] I Q := by
  exact wseg_sound pAtPut_ok (cut := []) ok_20 400 true 0 _ _ _ h
theorem t21_0 {Q : Post} (I : Mem) (x0 : Int) (h : (¬ x0 = 64 → ((x0 = 58 → (Q (some (.inl 2)) I)) ∧
  (¬ (x0 = 58) → ((¬ x0 = 33 → (Q (some (.inl 1)) I)) ∧
   (¬ (¬ x0 = 33) → (Q (some (.inl 2)) I)))))) ∧
 (¬ (¬ x0 = 64) → (Q (some (.inl 3)) I))) : R 21 0 [(0, .inl x0)] [] I Q := by
  exact wseg_sound pAtPut_ok (cut := []) ok_21 400 true 0 _ _ _ h
theorem t22_0 {Q : Post} (I : Mem) (x0 : Int) (x1 : Int) (x2 : Int) (h : (¬ x0 = 43 → ((¬ x0 = 45 → (Q (some (.inl (wrap (x1 * x2)))) I)) ∧
  (¬ (¬ x0 = 45) → (Q (some (.inl (wrap (x1 - x2)))) I)))) ∧
 (¬ (¬ x0 = 43) → (Q (some (.inl (wrap (x1 + x2)))) I))) : R 22 0 [(0, .inl x0), (1, .inl x1), (2, .inl x2)] [] I Q := by
  exact wseg_sound pAtPut_ok (cut := []) ok_22 400 true 0 _ _ _ h
theorem t23_0 {Q : Post} (I : Mem) (x0 : Int) (h : R 16 0 [(0, .inl x0)] [] I (fun r1 I1 => ∃ v1, r1 = some (.inl v1) ∧ ((v1 = 0 → (R 17 0 [(0, .inl x0)] [] I1 (fun r2 I2 => ∃ v2, r2 = some (.inl v2) ∧ ((v2 = 0 → (Q (some (.inl 0)) I2)) ∧
  (¬ (v2 = 0) → (Q (some (.inl (ishl 1 (wrap ((wrap (8 + x0)) - 65))))) I2)))))) ∧
 (¬ (v1 = 0) → (Q (some (.inl (ishl 1 (wrap (x0 - 97))))) I1))))) : R 23 0 [(0, .inl x0)] [] I Q := by
  exact wseg_sound pAtPut_ok (cut := []) ok_23 400 true 0 _ _ _ h
theorem t5_0 {Q : Post} (I : Mem) (x1 : Int) (h : (¬ (rd I 21 x1) = 1 → (RetB 0 I Q)) ∧
 (¬ (¬ (rd I 21 x1) = 1) → (RetB 1 I Q))) : R 5 0 [(0, .inr (some 20)), (1, .inl x1)] [] I Q := by
  exact wseg_sound pAtPut_ok (cut := []) ok_5 400 true 0 _ _ _ h
theorem t6_0 {Q : Post} (I : Mem) (x1 : Int) (h : Q (some (.inl (rd I 23 x1))) I) : R 6 0 [(0, .inr (some 20)), (1, .inl x1)] [] I Q := by
  exact wseg_sound pAtPut_ok (cut := []) ok_6 400 true 0 _ _ _ h
theorem t7_0 {Q : Post} (I : Mem) (x1 : Int) (h : Q (some (.inl (rd I 24 (wrap (x1 - 65))))) I) : R 7 0 [(0, .inr (some 20)), (1, .inl x1)] [] I Q := by
  exact wseg_sound pAtPut_ok (cut := []) ok_7 400 true 0 _ _ _ h
theorem t8_0 {Q : Post} (I : Mem) (x1 : Int) (h : Q (some (.inl (rd I 25 (wrap (x1 - 65))))) I) : R 8 0 [(0, .inr (some 20)), (1, .inl x1)] [] I Q := by
  exact wseg_sound pAtPut_ok (cut := []) ok_8 400 true 0 _ _ _ h
theorem t9_0 {Q : Post} (I : Mem) (x1 : Int) (h : R 8 0 [(0, .inr (some 20)), (1, .inl x1)] [] I (fun r1 I1 => ∃ v1, r1 = some (.inl v1) ∧ ((v1 = (-11) → (RetB 0 I1 Q)) ∧
 (¬ (v1 = (-11)) → ((v1 = (-12) → (RetB 0 I1 Q)) ∧
  (¬ (v1 = (-12)) → (RetB 1 I1 Q))))))) : R 9 0 [(0, .inr (some 20)), (1, .inl x1)] [] I Q := by
  exact wseg_sound pAtPut_ok (cut := []) ok_9 400 true 0 _ _ _ h
theorem t27_0 {Q : Post} (I : Mem) (x1 : Int) (h : let J1 := upd2 I 26 1 x1; let J2 := upd2 J1 26 11 (wrap ((J1 26 11) - 1)); Q none J2) : R 27 0 [(0, .inr (some 26)), (1, .inl x1)] [] I Q := by
  exact wseg_sound pAtPut_ok (cut := []) ok_27 400 true 0 _ _ _ h
theorem t35_0 {Q : Post} (I : Mem) (x1 : Int) (x2 : Int) (x3 : Int) (h : let J1 := wr I 34 (I 26 15) x2; let J2 := wr J1 35 (I 26 15) x3; let J3 := wr J2 36 (I 26 15) x1; let J4 := upd2 J3 26 15 (wrap ((J3 26 15) + 1)); Q (some (.inl (I 26 15))) J4) : R 35 0 [(0, .inr (some 26)), (1, .inl x1), (2, .inl x2), (3, .inl x3)] [] I Q := by
  exact wseg_sound pAtPut_ok (cut := []) ok_35 400 true 0 _ _ _ h
theorem t70_0 {Q : Post} (t : Nat) (ht : t = 9 ∨ t = 40) (I : Mem) (x1 : Int) (h : (x1 < 0 → (RetB 0 I Q)) ∧
 (¬ (x1 < 0) → (((I t 0) ≤ x1 → (RetB 0 I Q)) ∧
  (¬ ((I t 0) ≤ x1) → (RetB 1 I Q))))) : R 70 0 [(0, .inr (some t)), (1, .inl x1)] [] I Q := by
  rcases ht with rfl | rfl <;> exact wseg_sound pAtPut_ok (cut := []) ok_70 400 true 0 _ _ _ h
theorem t71_0 {Q : Post} (t : Nat) (ht : t = 9 ∨ t = 40) (I : Mem) (x1 : Int) (h : Q (some (.inl (wrap (x1 + 1)))) I) : R 71 0 [(0, .inr (some t)), (1, .inl x1)] [] I Q := by
  rcases ht with rfl | rfl <;> exact wseg_sound pAtPut_ok (cut := []) ok_71 400 true 0 _ _ _ h
theorem t72_0 {Q : Post} (t : Nat) (ht : t = 9 ∨ t = 40) (I : Mem) (x1 : Int) (h : Q (some (.inl (wrap ((wrap (x1 + 1)) + (rd I (t + 6) (wrap (x1 + 1))))))) I) : R 72 0 [(0, .inr (some t)), (1, .inl x1)] [] I Q := by
  rcases ht with rfl | rfl <;> exact wseg_sound pAtPut_ok (cut := []) ok_72 400 true 0 _ _ _ h
theorem t73_0 {Q : Post} (t : Nat) (ht : t = 9 ∨ t = 40) (I : Mem) (x1 : Int) (h : Q (some (.inl (wrap ((wrap ((wrap (x1 + 1)) + (rd I (t + 6) (wrap (x1 + 1))))) + (rd I (t + 6) (wrap ((wrap (x1 + 1)) + (rd I (t + 6) (wrap (x1 + 1)))))))))) I) : R 73 0 [(0, .inr (some t)), (1, .inl x1)] [] I Q := by
  rcases ht with rfl | rfl <;> exact wseg_sound pAtPut_ok (cut := []) ok_73 400 true 0 _ _ _ h
theorem t47_0 {Q : Post} (I : Mem) (x1 : Int) (h : R 23 0 [(0, .inl x1)] [] I (fun r1 I1 => ∃ v1, r1 = some (.inl v1) ∧ (((iand (I 2 7) v1) = 0 → (RetB 0 I1 Q)) ∧
 (¬ ((iand (I 2 7) v1) = 0) → (RetB 1 I1 Q))))) : R 47 0 [(0, .inr (some 2)), (1, .inl x1)] [] I Q := by
  exact wseg_sound pAtPut_ok (cut := []) ok_47 400 true 0 _ _ _ h
theorem t106_0 {Q : Post} (I : Mem) (x0 : Int) (x1 : Int) (x2 : Int) (h : (x0 < x1 → (RetB 0 I Q)) ∧
 (¬ (x0 < x1) → ((x2 < x0 → (RetB 0 I Q)) ∧
  (¬ (x2 < x0) → (RetB 1 I Q))))) : R 106 0 [(0, .inl x0), (1, .inl x1), (2, .inl x2)] [] I Q := by
  exact wseg_sound pAtPut_ok (cut := []) ok_106 400 true 0 _ _ _ h
theorem t107_0 {Q : Post} (I : Mem) (x0 : Int) (h : R 106 0 [(0, .inl x0), (1, .inl 48), (2, .inl 57)] [] I (fun r1 I1 => ∃ v1, r1 = some (.inl v1) ∧ (RetB v1 I1 Q))) : R 107 0 [(0, .inl x0)] [] I Q := by
  exact wseg_sound pAtPut_ok (cut := []) ok_107 400 true 0 _ _ _ h
theorem t108_0 {Q : Post} (I : Mem) (x0 : Int) (h : R 106 0 [(0, .inl x0), (1, .inl 97), (2, .inl 104)] [] I (fun r1 I1 => ∃ v1, r1 = some (.inl v1) ∧ (RetB v1 I1 Q))) : R 108 0 [(0, .inl x0)] [] I Q := by
  exact wseg_sound pAtPut_ok (cut := []) ok_108 400 true 0 _ _ _ h
theorem t109_0 {Q : Post} (I : Mem) (x0 : Int) (h : (x0 = 120 → (RetB 1 I Q)) ∧
 (¬ (x0 = 120) → ((¬ x0 = 121 → (RetB 0 I Q)) ∧
  (¬ (¬ x0 = 121) → (RetB 1 I Q))))) : R 109 0 [(0, .inl x0)] [] I Q := by
  exact wseg_sound pAtPut_ok (cut := []) ok_109 400 true 0 _ _ _ h
theorem t110_0 {Q : Post} (I : Mem) (x0 : Int) (h : R 106 0 [(0, .inl x0), (1, .inl 65), (2, .inl 70)] [] I (fun r1 I1 => ∃ v1, r1 = some (.inl v1) ∧ (RetB v1 I1 Q))) : R 110 0 [(0, .inl x0)] [] I Q := by
  exact wseg_sound pAtPut_ok (cut := []) ok_110 400 true 0 _ _ _ h
theorem t111_0 {Q : Post} (I : Mem) (x0 : Int) (h : (x0 = 43 → (RetB 1 I Q)) ∧
 (¬ (x0 = 43) → ((x0 = 45 → (RetB 1 I Q)) ∧
  (¬ (x0 = 45) → ((¬ x0 = 42 → (RetB 0 I Q)) ∧
   (¬ (¬ x0 = 42) → (RetB 1 I Q))))))) : R 111 0 [(0, .inl x0)] [] I Q := by
  exact wseg_sound pAtPut_ok (cut := []) ok_111 400 true 0 _ _ _ h
theorem t112_0 {Q : Post} (I : Mem) (x0 : Int) (h : R 111 0 [(0, .inl x0)] [] I (fun r1 I1 => ∃ v1, r1 = some (.inl v1) ∧ ((¬ v1 = 0 → (Q (some (.inl 2)) I1)) ∧
 (¬ (¬ v1 = 0) → ((x0 = 58 → (Q (some (.inl 2)) I1)) ∧
  (¬ (x0 = 58) → ((¬ x0 = 64 → ((¬ x0 = 63 → ((¬ x0 = 33 → (Q (some (.inl 0)) I1)) ∧
     (¬ (¬ x0 = 33) → (Q (some (.inl 1)) I1)))) ∧
    (¬ (¬ x0 = 63) → (Q (some (.inl 3)) I1)))) ∧
   (¬ (¬ x0 = 64) → (Q (some (.inl 2)) I1))))))))) : R 112 0 [(0, .inl x0)] [] I Q := by
  exact wseg_sound pAtPut_ok (cut := []) ok_112 400 true 0 _ _ _ h
theorem t113_0 {Q : Post} (I : Mem) (x0 : Int) (h : (x0 = 58 → (Q (some (.inl 1)) I)) ∧
 (¬ (x0 = 58) → ((¬ x0 = 33 → ((¬ x0 = 64 → (Q (some (.inl 0)) I)) ∧
   (¬ (¬ x0 = 64) → (Q (some (.inl 2)) I)))) ∧
  (¬ (¬ x0 = 33) → (Q (some (.inl 1)) I))))) : R 113 0 [(0, .inl x0)] [] I Q := by
  exact wseg_sound pAtPut_ok (cut := []) ok_113 400 true 0 _ _ _ h
theorem t139_0 {Q : Post} (I : Mem) (x0 : Int) (x1 : Int) (x2 : Int) (h : (¬ x0 = 43 → ((¬ x0 = 45 → (Q (some (.inl (wrap (x1 * x2)))) I)) ∧
  (¬ (¬ x0 = 45) → (Q (some (.inl (wrap (x1 - x2)))) I)))) ∧
 (¬ (¬ x0 = 43) → (Q (some (.inl (wrap (x1 + x2)))) I))) : R 139 0 [(0, .inl x0), (1, .inl x1), (2, .inl x2)] [] I Q := by
  exact wseg_sound pAtPut_ok (cut := []) ok_139 400 true 0 _ _ _ h
theorem t124_0 {Q : Post} (I : Mem) (x1 : Int) (h : inb x1 (60) ∧ (inb (I 89 (x1).toNat) (63) ∧ (Q (some (.inl (I 79 (I 89 (x1).toNat).toNat))) I))) : R 124 0 [(0, .inr (some 77)), (1, .inl x1)] [] I Q := by
  exact wseg_sound pAtPut_ok (cut := []) ok_124 400 true 0 _ _ _ h
theorem t125_0 {Q : Post} (I : Mem) (x1 : Int) (x2 : Int) (h : inb (wrap ((wrap (3 * x1)) + x2)) (180) ∧ (Q (some (.inl (I 94 (wrap ((wrap (3 * x1)) + x2)).toNat))) I)) : R 125 0 [(0, .inr (some 77)), (1, .inl x1), (2, .inl x2)] [] I Q := by
  exact wseg_sound pAtPut_ok (cut := []) ok_125 400 true 0 _ _ _ h
theorem t128_0 {Q : Post} (I : Mem) (x1 : Int) (h : R 106 0 [(0, .inl x1), (1, .inl 0), (2, .inl (wrap ((I 77 20) - 1)))] [] I (fun r1 I1 => ∃ v1, r1 = some (.inl v1) ∧ (RetB v1 I1 Q))) : R 128 0 [(0, .inr (some 77)), (1, .inl x1)] [] I Q := by
  exact wseg_sound pAtPut_ok (cut := []) ok_128 400 true 0 _ _ _ h
theorem t129_0 {Q : Post} (I : Mem) (x1 : Int) (h : R 124 0 [(0, .inr (some 77)), (1, .inl x1)] [] I (fun r1 I1 => ∃ v1, r1 = some (.inl v1) ∧ ((¬ v1 = 33 → (RetB 0 I1 Q)) ∧
 (¬ (¬ v1 = 33) → (RetB 1 I1 Q))))) : R 129 0 [(0, .inr (some 77)), (1, .inl x1)] [] I Q := by
  exact wseg_sound pAtPut_ok (cut := []) ok_129 400 true 0 _ _ _ h
theorem t130_0 {Q : Post} (I : Mem) (x1 : Int) (h : inb x1 (60) ∧ (inb (wrap ((I 89 (x1).toNat) + 1)) (63) ∧ (Q (some (.inl (I 79 (wrap ((I 89 (x1).toNat) + 1)).toNat))) I))) : R 130 0 [(0, .inr (some 77)), (1, .inl x1)] [] I Q := by
  exact wseg_sound pAtPut_ok (cut := []) ok_130 400 true 0 _ _ _ h
theorem t134_0 {Q : Post} (I : Mem) (x1 : Int) (h : inb (wrap (x1 - 65)) (6) ∧ (((I 99 (wrap (x1 - 65)).toNat) = (-13) → (RetB 1 I Q)) ∧
 (¬ ((I 99 (wrap (x1 - 65)).toNat) = (-13)) → (inb (wrap (x1 - 65)) (6) ∧ (((I 99 (wrap (x1 - 65)).toNat) < 0 → (RetB 0 I Q)) ∧
  (¬ ((I 99 (wrap (x1 - 65)).toNat) < 0) → (RetB 1 I Q))))))) : R 134 0 [(0, .inr (some 77)), (1, .inl x1)] [] I Q := by
  exact wseg_sound pAtPut_ok (cut := []) ok_134 400 true 0 _ _ _ h
theorem t140_0 {Q : Post} (I : Mem) (x1 : Int) (h : R 124 0 [(0, .inr (some 77)), (1, .inl x1)] [] I (fun r1 I1 => ∃ v1, r1 = some (.inl v1) ∧ (Q (some (.inl (wrap (v1 - 48)))) I1))) : R 140 0 [(0, .inr (some 77)), (1, .inl x1)] [] I Q := by
  exact wseg_sound pAtPut_ok (cut := []) ok_140 400 true 0 _ _ _ h
theorem t116_0 {Q : Post} (I : Mem) (x1 : Int) (h : inb (I 77 13) (400) ∧ (let J1 := upd2 I 85 (I 77 13).toNat x1; let J2 := upd2 J1 77 13 (wrap ((J1 77 13) + 1)); Q none J2)) : R 116 0 [(0, .inr (some 77)), (1, .inl x1)] [] I Q := by
  exact wseg_sound pAtPut_ok (cut := []) ok_116 400 true 0 _ _ _ h
theorem t143_0 {Q : Post} (I : Mem) (x1 : Int) (h : inb (I 77 34) (60) ∧ (let J1 := upd2 I 100 (I 77 34).toNat x1; let J2 := upd2 J1 77 34 (wrap ((J1 77 34) + 1)); Q none J2)) : R 143 0 [(0, .inr (some 77)), (1, .inl x1)] [] I Q := by
  exact wseg_sound pAtPut_ok (cut := []) ok_143 400 true 0 _ _ _ h
theorem t158_0 {Q : Post} (I : Mem) (x1 : Int) (x2 : Int) (x3 : Int) (h : inb (I 77 43) (320) ∧ (let J1 := upd2 I 105 (I 77 43).toNat x1; inb (J1 77 43) (320) ∧ (let J2 := upd2 J1 106 (J1 77 43).toNat x2; inb (J2 77 43) (320) ∧ (let J3 := upd2 J2 107 (J2 77 43).toNat x3; let J4 := upd2 J3 77 43 (wrap ((J3 77 43) + 1)); Q (some (.inl (wrap ((J4 77 43) - 1)))) J4)))) : R 158 0 [(0, .inr (some 77)), (1, .inl x1), (2, .inl x2), (3, .inl x3)] [] I Q := by
  exact wseg_sound pAtPut_ok (cut := []) ok_158 400 true 0 _ _ _ h
theorem R15 {c : Int} {I : Mem} {Q : Post} (h : Q (some (.inl (b2i (isDig c)))) I) : R 15 0 [(0, .inl c)] [] I Q := by
  refine t15_0 I c ?_
  repeat' (first | apply And.intro | intro)
  all_goals first
    | exact Or.inl rfl
    | exact Or.inr rfl
    | exact (show b2i (isDig c) = 0 from b2i_f (by simp [isDig]; try omega)) ▸ h
    | exact (show b2i (isDig c) = 1 from b2i_t (by simp [isDig]; try omega)) ▸ h
theorem R16 {c : Int} {I : Mem} {Q : Post} (h : Q (some (.inl (b2i (isVal c)))) I) : R 16 0 [(0, .inl c)] [] I Q := by
  refine t16_0 I c ?_
  repeat' (first | apply And.intro | intro)
  all_goals first
    | exact Or.inl rfl
    | exact Or.inr rfl
    | exact (show b2i (isVal c) = 0 from b2i_f (by simp [isVal]; try omega)) ▸ h
    | exact (show b2i (isVal c) = 1 from b2i_t (by simp [isVal]; try omega)) ▸ h
theorem R17 {c : Int} {I : Mem} {Q : Post} (h : Q (some (.inl (b2i (isFun c)))) I) : R 17 0 [(0, .inl c)] [] I Q := by
  refine t17_0 I c ?_
  repeat' (first | apply And.intro | intro)
  all_goals first
    | exact Or.inl rfl
    | exact Or.inr rfl
    | exact (show b2i (isFun c) = 0 from b2i_f (by simp [isFun]; try omega)) ▸ h
    | exact (show b2i (isFun c) = 1 from b2i_t (by simp [isFun]; try omega)) ▸ h
theorem R18 {c : Int} {I : Mem} {Q : Post} (h : Q (some (.inl (b2i (isInp c)))) I) : R 18 0 [(0, .inl c)] [] I Q := by
  refine t18_0 I c ?_
  repeat' (first | apply And.intro | intro)
  all_goals first
    | exact Or.inl rfl
    | exact Or.inr rfl
    | exact (show b2i (isInp c) = 0 from b2i_f (by simp [isInp]; try omega)) ▸ h
    | exact (show b2i (isInp c) = 1 from b2i_t (by simp [isInp]; try omega)) ▸ h
theorem R19 {c : Int} {I : Mem} {Q : Post} (h : Q (some (.inl (b2i (isOpr c)))) I) : R 19 0 [(0, .inl c)] [] I Q := by
  refine t19_0 I c ?_
  repeat' (first | apply And.intro | intro)
  all_goals first
    | exact Or.inl rfl
    | exact Or.inr rfl
    | exact (show b2i (isOpr c) = 0 from b2i_f (by simp [isOpr]; try omega)) ▸ h
    | exact (show b2i (isOpr c) = 1 from b2i_t (by simp [isOpr]; try omega)) ▸ h
theorem R109 {c : Int} {I : Mem} {Q : Post} (h : Q (some (.inl (b2i (isInp c)))) I) : R 109 0 [(0, .inl c)] [] I Q := by
  refine t109_0 I c ?_
  repeat' (first | apply And.intro | intro)
  all_goals first
    | exact Or.inl rfl
    | exact Or.inr rfl
    | exact (show b2i (isInp c) = 0 from b2i_f (by simp [isInp]; try omega)) ▸ h
    | exact (show b2i (isInp c) = 1 from b2i_t (by simp [isInp]; try omega)) ▸ h
theorem R111 {c : Int} {I : Mem} {Q : Post} (h : Q (some (.inl (b2i (isOpr c)))) I) : R 111 0 [(0, .inl c)] [] I Q := by
  refine t111_0 I c ?_
  repeat' (first | apply And.intro | intro)
  all_goals first
    | exact Or.inl rfl
    | exact Or.inr rfl
    | exact (show b2i (isOpr c) = 0 from b2i_f (by simp [isOpr]; try omega)) ▸ h
    | exact (show b2i (isOpr c) = 1 from b2i_t (by simp [isOpr]; try omega)) ▸ h
theorem R106 {v lo hi : Int} {I : Mem} {Q : Post} (h : Q (some (.inl (b2i (inI v lo hi)))) I) : R 106 0 [(0, .inl v), (1, .inl lo), (2, .inl hi)] [] I Q := by
  refine t106_0 I v lo hi ?_
  repeat' (first | apply And.intro | intro)
  all_goals first
    | exact Or.inl rfl
    | exact Or.inr rfl
    | exact (show b2i (inI v lo hi) = 0 from b2i_f (by simp [inI]; try omega)) ▸ h
    | exact (show b2i (inI v lo hi) = 1 from b2i_t (by simp [inI]; try omega)) ▸ h
theorem R107 {c : Int} {I : Mem} {Q : Post} (h : Q (some (.inl (b2i (isDig c)))) I) : R 107 0 [(0, .inl c)] [] I Q := by
  exact t107_0 I c (R106 ⟨_, rfl, isB_b2i _, h⟩)
theorem R108 {c : Int} {I : Mem} {Q : Post} (h : Q (some (.inl (b2i (isVal c)))) I) : R 108 0 [(0, .inl c)] [] I Q := by
  exact t108_0 I c (R106 ⟨_, rfl, isB_b2i _, h⟩)
theorem R110 {c : Int} {I : Mem} {Q : Post} (h : Q (some (.inl (b2i (isFun c)))) I) : R 110 0 [(0, .inl c)] [] I Q := by
  exact t110_0 I c (R106 ⟨_, rfl, isB_b2i _, h⟩)
theorem R20 {c : Int} {I : Mem} {Q : Post} (h : Q (some (.inl (pts c : Int))) I) : R 20 0 [(0, .inl c)] [] I Q := by
  refine t20_0 I c (R19 ⟨_, rfl, ?_⟩)
  rw [b2i_0]
  repeat' (first | apply And.intro | intro)
  all_goals first
    | exact (show (pts c : Int) = 2 by simp_all [pts]) ▸ h
    | exact (show (pts c : Int) = 3 by simp_all [pts]) ▸ h
    | exact (show (pts c : Int) = 1 by simp_all [pts]) ▸ h
    | exact (show (pts c : Int) = 0 by simp_all [pts]) ▸ h
theorem R112 {c : Int} {I : Mem} {Q : Post} (h : Q (some (.inl (pts c : Int))) I) : R 112 0 [(0, .inl c)] [] I Q := by
  refine t112_0 I c (R111 ⟨_, rfl, ?_⟩)
  rw [b2i_0]
  repeat' (first | apply And.intro | intro)
  all_goals first
    | exact (show (pts c : Int) = 2 by simp_all [pts]) ▸ h
    | exact (show (pts c : Int) = 3 by simp_all [pts]) ▸ h
    | exact (show (pts c : Int) = 1 by simp_all [pts]) ▸ h
    | exact (show (pts c : Int) = 0 by simp_all [pts]) ▸ h
theorem R21 {c : Int} {I : Mem} {Q : Post} (h : Q (some (.inl (hds c : Int))) I) : R 21 0 [(0, .inl c)] [] I Q := by
  refine t21_0 I c ?_
  repeat' (first | apply And.intro | intro)
  all_goals first
    | exact (show (hds c : Int) = 3 by simp_all [hds]) ▸ h
    | exact (show (hds c : Int) = 2 by simp_all [hds]) ▸ h
    | exact (show (hds c : Int) = 1 by simp_all [hds]) ▸ h
theorem R113 {c : Int} {I : Mem} {Q : Post} (h : Q (some (.inl ((hds c - 1 : Nat) : Int))) I) : R 113 0 [(0, .inl c)] [] I Q := by
  refine t113_0 I c ?_
  repeat' (first | apply And.intro | intro)
  all_goals first
    | exact (show ((hds c - 1 : Nat) : Int) = 2 by simp_all [hds]) ▸ h
    | exact (show ((hds c - 1 : Nat) : Int) = 1 by simp_all [hds]) ▸ h
    | exact (show ((hds c - 1 : Nat) : Int) = 0 by simp_all [hds]) ▸ h
theorem R22 {op a b : Int} {I : Mem} {Q : Post} (h : Q (some (.inl (oper op a b))) I) : R 22 0 [(0, .inl op), (1, .inl a), (2, .inl b)] [] I Q := by
  refine t22_0 I op a b ?_
  repeat' (first | apply And.intro | intro)
  all_goals first
    | exact (show oper op a b = wrap (a + b) by simp_all [oper]) ▸ h
    | exact (show oper op a b = wrap (a - b) by simp_all [oper]) ▸ h
    | exact (show oper op a b = wrap (a * b) by simp_all [oper]) ▸ h
theorem R139 {op a b : Int} {I : Mem} {Q : Post} (h : Q (some (.inl (oper op a b))) I) : R 139 0 [(0, .inl op), (1, .inl a), (2, .inl b)] [] I Q := by
  refine t139_0 I op a b ?_
  repeat' (first | apply And.intro | intro)
  all_goals first
    | exact (show oper op a b = wrap (a + b) by simp_all [oper]) ▸ h
    | exact (show oper op a b = wrap (a - b) by simp_all [oper]) ▸ h
    | exact (show oper op a b = wrap (a * b) by simp_all [oper]) ▸ h
theorem R23 {c : Int} {I : Mem} {Q : Post} (h : Q (some (.inl (bitc c))) I) : R 23 0 [(0, .inl c)] [] I Q := by
  refine t23_0 I c (R16 ⟨_, rfl, ?_⟩)
  rw [b2i_0]
  refine ⟨fun h1 => R17 ⟨_, rfl, ?_⟩, fun h1 => ?_⟩
  · rw [b2i_0]
    refine ⟨fun h2 => ?_, fun h2 => ?_⟩
    · exact (show bitc c = 0 by simp_all [bitc]) ▸ h
    · exact (show bitc c = _ by simp_all [bitc]; rfl) ▸ h
  · exact (show bitc c = _ by simp_all [bitc]; rfl) ▸ h
theorem R5 {p : Int} {I : Mem} {Q : Post} (h : Q (some (.inl (b2i (decide (rd I 21 p = 1))))) I) : R 5 0 [(0, .inr (some 20)), (1, .inl p)] [] I Q := by
  refine t5_0 I p ?_
  repeat' (first | apply And.intro | intro)
  all_goals first
    | exact Or.inl rfl
    | exact Or.inr rfl
    | exact (show b2i (decide (rd I 21 p = 1)) = 0 from b2i_f (by simp [*]; try omega)) ▸ h
    | exact (show b2i (decide (rd I 21 p = 1)) = 1 from b2i_t (by simp [*]; try omega)) ▸ h
theorem R6 {p : Int} {I : Mem} {Q : Post} (h : Q (some (.inl (rd I 23 p))) I) : R 6 0 [(0, .inr (some 20)), (1, .inl p)] [] I Q := t6_0 I p h
theorem R7 {c : Int} {I : Mem} {Q : Post} (h : Q (some (.inl (rd I 24 (wrap (c - 65))))) I) : R 7 0 [(0, .inr (some 20)), (1, .inl c)] [] I Q := t7_0 I c h
theorem R8 {c : Int} {I : Mem} {Q : Post} (h : Q (some (.inl (rd I 25 (wrap (c - 65))))) I) : R 8 0 [(0, .inr (some 20)), (1, .inl c)] [] I Q := t8_0 I c h
theorem R9 {c : Int} {I : Mem} {Q : Post} (h : Q (some (.inl (b2i (jmp (rd I 25 (wrap (c - 65))))))) I) : R 9 0 [(0, .inr (some 20)), (1, .inl c)] [] I Q := by
  refine t9_0 I c (R8 ⟨_, rfl, ?_⟩)
  generalize rd I 25 (wrap (c - 65)) = v at h
  repeat' (first | apply And.intro | intro)
  all_goals first
    | exact Or.inl rfl
    | exact Or.inr rfl
    | exact (show b2i (jmp v) = 0 from b2i_f (by simp [jmp, *]; try omega)) ▸ h
    | exact (show b2i (jmp v) = 1 from b2i_t (by simp [jmp, *]; try omega)) ▸ h
theorem R27 {v : Int} {I : Mem} {Q : Post} (h : Q none (upd2 (upd2 I 26 1 v) 26 11 (wrap (I 26 11 - 1)))) : R 27 0 [(0, .inr (some 26)), (1, .inl v)] [] I Q := by
  refine t27_0 I v ?_
  simpa [upd2] using h
theorem R35 {a n v : Int} {I : Mem} {Q : Post} (h : Q (some (.inl (I 26 15))) (upd2 (wr (wr (wr I 34 (I 26 15) n) 35 (I 26 15) v) 36 (I 26 15) a) 26 15 (wrap (I 26 15 + 1)))) : R 35 0 [(0, .inr (some 26)), (1, .inl a), (2, .inl n), (3, .inl v)] [] I Q := by
  refine t35_0 I a n v ?_
  have hw : ∀ (J : Mem) (id : Nat) (i w : Int), id ≠ 26 → wr J id i w 26 15 = J 26 15 := by
    intro J id i w hne
    unfold wr
    split
    · unfold upd2; rw [if_neg (fun q => hne q.1.symm)]
    · rfl
  simpa [hw] using h
theorem R70 {t : Nat} {p : Int} {I : Mem} {Q : Post} (ht : t = 9 ∨ t = 40) (h : Q (some (.inl (b2i (inI p 0 (I t 0 - 1))))) I) : R 70 0 [(0, .inr (some t)), (1, .inl p)] [] I Q := by
  refine t70_0 t ht I p ?_
  repeat' (first | apply And.intro | intro)
  all_goals first
    | exact Or.inl rfl
    | exact Or.inr rfl
    | exact (show b2i (inI p 0 (I t 0 - 1)) = 0 from b2i_f (by simp [inI]; try omega)) ▸ h
    | exact (show b2i (inI p 0 (I t 0 - 1)) = 1 from b2i_t (by simp [inI]; try omega)) ▸ h
theorem R71 {t : Nat} {p : Int} {I : Mem} {Q : Post} (ht : t = 9 ∨ t = 40) (h : Q (some (.inl (wrap (p + 1)))) I) : R 71 0 [(0, .inr (some t)), (1, .inl p)] [] I Q := t71_0 t ht I p h
theorem R72 {t : Nat} {p : Int} {I : Mem} {Q : Post} (ht : t = 9 ∨ t = 40) (h : Q (some (.inl (wrap (wrap (p + 1) + rd I (t + 6) (wrap (p + 1)))))) I) : R 72 0 [(0, .inr (some t)), (1, .inl p)] [] I Q := t72_0 t ht I p h
theorem R73 {t : Nat} {p : Int} {I : Mem} {Q : Post} (ht : t = 9 ∨ t = 40) (h : Q (some (.inl (wrap (wrap (wrap (p + 1) + rd I (t + 6) (wrap (p + 1))) + rd I (t + 6) (wrap (wrap (p + 1) + rd I (t + 6) (wrap (p + 1)))))))) I) : R 73 0 [(0, .inr (some t)), (1, .inl p)] [] I Q := t73_0 t ht I p h
theorem R47 {c : Int} {I : Mem} {Q : Post} (h : Q (some (.inl (b2i (!(decide (iand (I 2 7) (bitc c) = 0)))))) I) : R 47 0 [(0, .inr (some 2)), (1, .inl c)] [] I Q := by
  refine t47_0 I c (R23 ⟨_, rfl, ?_⟩)
  repeat' (first | apply And.intro | intro)
  all_goals first
    | exact Or.inl rfl
    | exact Or.inr rfl
    | exact (show b2i (!(decide (iand (I 2 7) (bitc c) = 0))) = 0 from b2i_f (by simp [*]; try omega)) ▸ h
    | exact (show b2i (!(decide (iand (I 2 7) (bitc c) = 0))) = 1 from b2i_t (by simp [*]; try omega)) ▸ h
theorem R124 {p : Int} {I : Mem} {Q : Post} (hp : mletP I p) (h : Q (some (.inl (mlet I p))) I) : R 124 0 [(0, .inr (some 77)), (1, .inl p)] [] I Q := t124_0 I p ⟨hp.1, hp.2, h⟩
theorem R125 {p k : Int} {I : Mem} {Q : Post} (hp : mkidP p k) (h : Q (some (.inl (mkid I p k))) I) : R 125 0 [(0, .inr (some 77)), (1, .inl p), (2, .inl k)] [] I Q := t125_0 I p k ⟨hp, h⟩
theorem R128 {p : Int} {I : Mem} {Q : Post} (h : Q (some (.inl (b2i (inI p 0 (wrap (I 77 20 - 1)))))) I) : R 128 0 [(0, .inr (some 77)), (1, .inl p)] [] I Q := t128_0 I p (R106 ⟨_, rfl, isB_b2i _, h⟩)
theorem R129 {p : Int} {I : Mem} {Q : Post} (hp : mletP I p) (h : Q (some (.inl (b2i (decide (mlet I p = 33))))) I) : R 129 0 [(0, .inr (some 77)), (1, .inl p)] [] I Q := by
  refine t129_0 I p (R124 hp ⟨_, rfl, ?_⟩)
  repeat' (first | apply And.intro | intro)
  all_goals first
    | exact Or.inl rfl
    | exact Or.inr rfl
    | exact (show b2i (decide (mlet I p = 33)) = 0 from b2i_f (by simp [*]; try omega)) ▸ h
    | exact (show b2i (decide (mlet I p = 33)) = 1 from b2i_t (by simp [*]; try omega)) ▸ h
theorem R130 {p : Int} {I : Mem} {Q : Post} (hp : mfunP I p) (h : Q (some (.inl (mfun I p))) I) : R 130 0 [(0, .inr (some 77)), (1, .inl p)] [] I Q := t130_0 I p ⟨hp.1, hp.2, h⟩
theorem R134 {c : Int} {I : Mem} {Q : Post} (hp : inb (wrap (c - 65)) 6) (h : Q (some (.inl (b2i (mjmp (I 99 (wrap (c - 65)).toNat))))) I) : R 134 0 [(0, .inr (some 77)), (1, .inl c)] [] I Q := by
  refine t134_0 I c ⟨hp, ?_⟩
  generalize I 99 (wrap (c - 65)).toNat = v at h
  refine ⟨fun h1 => ⟨Or.inr rfl, (show b2i (mjmp v) = 1 from b2i_t (by simp [mjmp, h1])) ▸ h⟩, fun h1 => ⟨hp, ⟨fun h2 => ⟨Or.inl rfl, (show b2i (mjmp v) = 0 from b2i_f (by simp [mjmp]; omega)) ▸ h⟩, fun h2 => ⟨Or.inr rfl, (show b2i (mjmp v) = 1 from b2i_t (by simp [mjmp]; omega)) ▸ h⟩⟩⟩⟩
theorem R140 {p : Int} {I : Mem} {Q : Post} (hp : mletP I p) (h : Q (some (.inl (wrap (mlet I p - 48)))) I) : R 140 0 [(0, .inr (some 77)), (1, .inl p)] [] I Q := t140_0 I p (R124 hp ⟨_, rfl, h⟩)
theorem R116 {v : Int} {I : Mem} {Q : Post} (hp : inb (I 77 13) 400) (h : Q none (upd2 (upd2 I 85 (I 77 13).toNat v) 77 13 (wrap (I 77 13 + 1)))) : R 116 0 [(0, .inr (some 77)), (1, .inl v)] [] I Q := by
  refine t116_0 I v ⟨hp, ?_⟩
  simpa [upd2] using h
theorem R143 {v : Int} {I : Mem} {Q : Post} (hp : inb (I 77 34) 60) (h : Q none (upd2 (upd2 I 100 (I 77 34).toNat v) 77 34 (wrap (I 77 34 + 1)))) : R 143 0 [(0, .inr (some 77)), (1, .inl v)] [] I Q := by
  refine t143_0 I v ⟨hp, ?_⟩
  simpa [upd2] using h
def mkn (I : Mem) (a b c : Int) : Mem := upd2 (upd2 (upd2 (upd2 I 105 (I 77 43).toNat a) 106 (I 77 43).toNat b) 107 (I 77 43).toNat c) 77 43 (wrap (I 77 43 + 1))
theorem R158 {a b c : Int} {I : Mem} {Q : Post} (hp : inb (I 77 43) 320) (h : Q (some (.inl (wrap (wrap (I 77 43 + 1) - 1)))) (mkn I a b c)) : R 158 0 [(0, .inr (some 77)), (1, .inl a), (2, .inl b), (3, .inl c)] [] I Q := by
  refine t158_0 I a b c ⟨hp, ?_⟩
  unfold mkn at h
  simpa [upd2, hp] using h

