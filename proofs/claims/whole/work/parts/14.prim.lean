/-! The leaves as primitives of wseg. -/
def p5 (as : List AV) (I : Mem) : Option ((Prop → Prop) × Option AV × Mem) := match as with
  | [.inr (some t), .inl a1] => (match Nat.beq t 20 with
    | true => some (fun X => X, some (.inl (b2i (decide (rd I 21 a1 = 1)))), I)
    | false => none)
  | _ => none
theorem p5_ok : ∀ as I t, p5 as I = some t → ∀ X : Prop, t.1 X → X ∧ R 5 0 (enumL 0 as) [] I (fun r I' => r = t.2.1 ∧ I' = t.2.2) := by
  intro as I t h X hX
  unfold p5 at h
  split at h
  · split at h
    next hb =>
      have e1 := Nat.eq_of_beq_eq_true hb
      subst e1
      cases h
      exact ⟨hX, R5 ⟨rfl, rfl⟩⟩
    next => cases h
  · cases h
def p6 (as : List AV) (I : Mem) : Option ((Prop → Prop) × Option AV × Mem) := match as with
  | [.inr (some t), .inl a1] => (match Nat.beq t 20 with
    | true => some (fun X => X, some (.inl (rd I 23 a1)), I)
    | false => none)
  | _ => none
theorem p6_ok : ∀ as I t, p6 as I = some t → ∀ X : Prop, t.1 X → X ∧ R 6 0 (enumL 0 as) [] I (fun r I' => r = t.2.1 ∧ I' = t.2.2) := by
  intro as I t h X hX
  unfold p6 at h
  split at h
  · split at h
    next hb =>
      have e1 := Nat.eq_of_beq_eq_true hb
      subst e1
      cases h
      exact ⟨hX, R6 ⟨rfl, rfl⟩⟩
    next => cases h
  · cases h
def p7 (as : List AV) (I : Mem) : Option ((Prop → Prop) × Option AV × Mem) := match as with
  | [.inr (some t), .inl a1] => (match Nat.beq t 20 with
    | true => some (fun X => X, some (.inl (rd I 24 (wrap (a1 - 65)))), I)
    | false => none)
  | _ => none
theorem p7_ok : ∀ as I t, p7 as I = some t → ∀ X : Prop, t.1 X → X ∧ R 7 0 (enumL 0 as) [] I (fun r I' => r = t.2.1 ∧ I' = t.2.2) := by
  intro as I t h X hX
  unfold p7 at h
  split at h
  · split at h
    next hb =>
      have e1 := Nat.eq_of_beq_eq_true hb
      subst e1
      cases h
      exact ⟨hX, R7 ⟨rfl, rfl⟩⟩
    next => cases h
  · cases h
def p8 (as : List AV) (I : Mem) : Option ((Prop → Prop) × Option AV × Mem) := match as with
  | [.inr (some t), .inl a1] => (match Nat.beq t 20 with
    | true => some (fun X => X, some (.inl (rd I 25 (wrap (a1 - 65)))), I)
    | false => none)
  | _ => none
theorem p8_ok : ∀ as I t, p8 as I = some t → ∀ X : Prop, t.1 X → X ∧ R 8 0 (enumL 0 as) [] I (fun r I' => r = t.2.1 ∧ I' = t.2.2) := by
  intro as I t h X hX
  unfold p8 at h
  split at h
  · split at h
    next hb =>
      have e1 := Nat.eq_of_beq_eq_true hb
      subst e1
      cases h
      exact ⟨hX, R8 ⟨rfl, rfl⟩⟩
    next => cases h
  · cases h
def p9 (as : List AV) (I : Mem) : Option ((Prop → Prop) × Option AV × Mem) := match as with
  | [.inr (some t), .inl a1] => (match Nat.beq t 20 with
    | true => some (fun X => X, some (.inl (b2i (jmp (rd I 25 (wrap (a1 - 65)))))), I)
    | false => none)
  | _ => none
theorem p9_ok : ∀ as I t, p9 as I = some t → ∀ X : Prop, t.1 X → X ∧ R 9 0 (enumL 0 as) [] I (fun r I' => r = t.2.1 ∧ I' = t.2.2) := by
  intro as I t h X hX
  unfold p9 at h
  split at h
  · split at h
    next hb =>
      have e1 := Nat.eq_of_beq_eq_true hb
      subst e1
      cases h
      exact ⟨hX, R9 ⟨rfl, rfl⟩⟩
    next => cases h
  · cases h
def p15 (as : List AV) (I : Mem) : Option ((Prop → Prop) × Option AV × Mem) := match as with
  | [.inl a0] => some (fun X => X, some (.inl (b2i (isDig a0))), I)
  | _ => none
theorem p15_ok : ∀ as I t, p15 as I = some t → ∀ X : Prop, t.1 X → X ∧ R 15 0 (enumL 0 as) [] I (fun r I' => r = t.2.1 ∧ I' = t.2.2) := by
  intro as I t h X hX
  unfold p15 at h
  split at h
  · cases h; exact ⟨hX, R15 ⟨rfl, rfl⟩⟩
  · cases h
def p16 (as : List AV) (I : Mem) : Option ((Prop → Prop) × Option AV × Mem) := match as with
  | [.inl a0] => some (fun X => X, some (.inl (b2i (isVal a0))), I)
  | _ => none
theorem p16_ok : ∀ as I t, p16 as I = some t → ∀ X : Prop, t.1 X → X ∧ R 16 0 (enumL 0 as) [] I (fun r I' => r = t.2.1 ∧ I' = t.2.2) := by
  intro as I t h X hX
  unfold p16 at h
  split at h
  · cases h; exact ⟨hX, R16 ⟨rfl, rfl⟩⟩
  · cases h
def p17 (as : List AV) (I : Mem) : Option ((Prop → Prop) × Option AV × Mem) := match as with
  | [.inl a0] => some (fun X => X, some (.inl (b2i (isFun a0))), I)
  | _ => none
theorem p17_ok : ∀ as I t, p17 as I = some t → ∀ X : Prop, t.1 X → X ∧ R 17 0 (enumL 0 as) [] I (fun r I' => r = t.2.1 ∧ I' = t.2.2) := by
  intro as I t h X hX
  unfold p17 at h
  split at h
  · cases h; exact ⟨hX, R17 ⟨rfl, rfl⟩⟩
  · cases h
def p18 (as : List AV) (I : Mem) : Option ((Prop → Prop) × Option AV × Mem) := match as with
  | [.inl a0] => some (fun X => X, some (.inl (b2i (isInp a0))), I)
  | _ => none
theorem p18_ok : ∀ as I t, p18 as I = some t → ∀ X : Prop, t.1 X → X ∧ R 18 0 (enumL 0 as) [] I (fun r I' => r = t.2.1 ∧ I' = t.2.2) := by
  intro as I t h X hX
  unfold p18 at h
  split at h
  · cases h; exact ⟨hX, R18 ⟨rfl, rfl⟩⟩
  · cases h
def p19 (as : List AV) (I : Mem) : Option ((Prop → Prop) × Option AV × Mem) := match as with
  | [.inl a0] => some (fun X => X, some (.inl (b2i (isOpr a0))), I)
  | _ => none
theorem p19_ok : ∀ as I t, p19 as I = some t → ∀ X : Prop, t.1 X → X ∧ R 19 0 (enumL 0 as) [] I (fun r I' => r = t.2.1 ∧ I' = t.2.2) := by
  intro as I t h X hX
  unfold p19 at h
  split at h
  · cases h; exact ⟨hX, R19 ⟨rfl, rfl⟩⟩
  · cases h
def p20 (as : List AV) (I : Mem) : Option ((Prop → Prop) × Option AV × Mem) := match as with
  | [.inl a0] => some (fun X => X, some (.inl (((pts a0 : Nat) : Int))), I)
  | _ => none
theorem p20_ok : ∀ as I t, p20 as I = some t → ∀ X : Prop, t.1 X → X ∧ R 20 0 (enumL 0 as) [] I (fun r I' => r = t.2.1 ∧ I' = t.2.2) := by
  intro as I t h X hX
  unfold p20 at h
  split at h
  · cases h; exact ⟨hX, R20 ⟨rfl, rfl⟩⟩
  · cases h
def p21 (as : List AV) (I : Mem) : Option ((Prop → Prop) × Option AV × Mem) := match as with
  | [.inl a0] => some (fun X => X, some (.inl (((hds a0 : Nat) : Int))), I)
  | _ => none
theorem p21_ok : ∀ as I t, p21 as I = some t → ∀ X : Prop, t.1 X → X ∧ R 21 0 (enumL 0 as) [] I (fun r I' => r = t.2.1 ∧ I' = t.2.2) := by
  intro as I t h X hX
  unfold p21 at h
  split at h
  · cases h; exact ⟨hX, R21 ⟨rfl, rfl⟩⟩
  · cases h
def p22 (as : List AV) (I : Mem) : Option ((Prop → Prop) × Option AV × Mem) := match as with
  | [.inl a0, .inl a1, .inl a2] => some (fun X => X, some (.inl (oper a0 a1 a2)), I)
  | _ => none
theorem p22_ok : ∀ as I t, p22 as I = some t → ∀ X : Prop, t.1 X → X ∧ R 22 0 (enumL 0 as) [] I (fun r I' => r = t.2.1 ∧ I' = t.2.2) := by
  intro as I t h X hX
  unfold p22 at h
  split at h
  · cases h; exact ⟨hX, R22 ⟨rfl, rfl⟩⟩
  · cases h
def p23 (as : List AV) (I : Mem) : Option ((Prop → Prop) × Option AV × Mem) := match as with
  | [.inl a0] => some (fun X => X, some (.inl (bitc a0)), I)
  | _ => none
theorem p23_ok : ∀ as I t, p23 as I = some t → ∀ X : Prop, t.1 X → X ∧ R 23 0 (enumL 0 as) [] I (fun r I' => r = t.2.1 ∧ I' = t.2.2) := by
  intro as I t h X hX
  unfold p23 at h
  split at h
  · cases h; exact ⟨hX, R23 ⟨rfl, rfl⟩⟩
  · cases h
def p27 (as : List AV) (I : Mem) : Option ((Prop → Prop) × Option AV × Mem) := match as with
  | [.inr (some t), .inl a1] => (match Nat.beq t 26 with
    | true => some (fun X => X, none, upd2 (upd2 I 26 1 a1) 26 11 (wrap (I 26 11 - 1)))
    | false => none)
  | _ => none
theorem p27_ok : ∀ as I t, p27 as I = some t → ∀ X : Prop, t.1 X → X ∧ R 27 0 (enumL 0 as) [] I (fun r I' => r = t.2.1 ∧ I' = t.2.2) := by
  intro as I t h X hX
  unfold p27 at h
  split at h
  · split at h
    next hb =>
      have e1 := Nat.eq_of_beq_eq_true hb
      subst e1
      cases h
      exact ⟨hX, R27 ⟨rfl, rfl⟩⟩
    next => cases h
  · cases h
def p35 (as : List AV) (I : Mem) : Option ((Prop → Prop) × Option AV × Mem) := match as with
  | [.inr (some t), .inl a1, .inl a2, .inl a3] => (match Nat.beq t 26 with
    | true => some (fun X => X, some (.inl (I 26 15)), upd2 (wr (wr (wr I 34 (I 26 15) a2) 35 (I 26 15) a3) 36 (I 26 15) a1) 26 15 (wrap (I 26 15 + 1)))
    | false => none)
  | _ => none
theorem p35_ok : ∀ as I t, p35 as I = some t → ∀ X : Prop, t.1 X → X ∧ R 35 0 (enumL 0 as) [] I (fun r I' => r = t.2.1 ∧ I' = t.2.2) := by
  intro as I t h X hX
  unfold p35 at h
  split at h
  · split at h
    next hb =>
      have e1 := Nat.eq_of_beq_eq_true hb
      subst e1
      cases h
      exact ⟨hX, R35 ⟨rfl, rfl⟩⟩
    next => cases h
  · cases h
def p47 (as : List AV) (I : Mem) : Option ((Prop → Prop) × Option AV × Mem) := match as with
  | [.inr (some t), .inl a1] => (match Nat.beq t 2 with
    | true => some (fun X => X, some (.inl (b2i (!(decide (iand (I 2 7) (bitc a1) = 0))))), I)
    | false => none)
  | _ => none
theorem p47_ok : ∀ as I t, p47 as I = some t → ∀ X : Prop, t.1 X → X ∧ R 47 0 (enumL 0 as) [] I (fun r I' => r = t.2.1 ∧ I' = t.2.2) := by
  intro as I t h X hX
  unfold p47 at h
  split at h
  · split at h
    next hb =>
      have e1 := Nat.eq_of_beq_eq_true hb
      subst e1
      cases h
      exact ⟨hX, R47 ⟨rfl, rfl⟩⟩
    next => cases h
  · cases h
def p70 (as : List AV) (I : Mem) : Option ((Prop → Prop) × Option AV × Mem) := match as with
  | [.inr (some t), .inl a1] => (match Nat.beq t 9 || Nat.beq t 40 with
    | true => some (fun X => X, some (.inl (b2i (inI a1 0 (I t 0 - 1)))), I)
    | false => none)
  | _ => none
theorem p70_ok : ∀ as I t, p70 as I = some t → ∀ X : Prop, t.1 X → X ∧ R 70 0 (enumL 0 as) [] I (fun r I' => r = t.2.1 ∧ I' = t.2.2) := by
  intro as I t h X hX
  unfold p70 at h
  split at h
  · split at h
    next hb =>
      simp only [Bool.or_eq_true] at hb
      cases h
      exact ⟨hX, R70 (hb.elim (fun q => Or.inl (Nat.eq_of_beq_eq_true q)) (fun q => Or.inr (Nat.eq_of_beq_eq_true q))) ⟨rfl, rfl⟩⟩
    next => cases h
  · cases h
def p71 (as : List AV) (I : Mem) : Option ((Prop → Prop) × Option AV × Mem) := match as with
  | [.inr (some t), .inl a1] => (match Nat.beq t 9 || Nat.beq t 40 with
    | true => some (fun X => X, some (.inl (wrap (a1 + 1))), I)
    | false => none)
  | _ => none
theorem p71_ok : ∀ as I t, p71 as I = some t → ∀ X : Prop, t.1 X → X ∧ R 71 0 (enumL 0 as) [] I (fun r I' => r = t.2.1 ∧ I' = t.2.2) := by
  intro as I t h X hX
  unfold p71 at h
  split at h
  · split at h
    next hb =>
      simp only [Bool.or_eq_true] at hb
      cases h
      exact ⟨hX, R71 (hb.elim (fun q => Or.inl (Nat.eq_of_beq_eq_true q)) (fun q => Or.inr (Nat.eq_of_beq_eq_true q))) ⟨rfl, rfl⟩⟩
    next => cases h
  · cases h
def p72 (as : List AV) (I : Mem) : Option ((Prop → Prop) × Option AV × Mem) := match as with
  | [.inr (some t), .inl a1] => (match Nat.beq t 9 || Nat.beq t 40 with
    | true => some (fun X => X, some (.inl (wrap (wrap (a1 + 1) + rd I (t + 6) (wrap (a1 + 1))))), I)
    | false => none)
  | _ => none
theorem p72_ok : ∀ as I t, p72 as I = some t → ∀ X : Prop, t.1 X → X ∧ R 72 0 (enumL 0 as) [] I (fun r I' => r = t.2.1 ∧ I' = t.2.2) := by
  intro as I t h X hX
  unfold p72 at h
  split at h
  · split at h
    next hb =>
      simp only [Bool.or_eq_true] at hb
      cases h
      exact ⟨hX, R72 (hb.elim (fun q => Or.inl (Nat.eq_of_beq_eq_true q)) (fun q => Or.inr (Nat.eq_of_beq_eq_true q))) ⟨rfl, rfl⟩⟩
    next => cases h
  · cases h
def p73 (as : List AV) (I : Mem) : Option ((Prop → Prop) × Option AV × Mem) := match as with
  | [.inr (some t), .inl a1] => (match Nat.beq t 9 || Nat.beq t 40 with
    | true => some (fun X => X, some (.inl (wrap (wrap (wrap (a1 + 1) + rd I (t + 6) (wrap (a1 + 1))) + rd I (t + 6) (wrap (wrap (a1 + 1) + rd I (t + 6) (wrap (a1 + 1))))))), I)
    | false => none)
  | _ => none
theorem p73_ok : ∀ as I t, p73 as I = some t → ∀ X : Prop, t.1 X → X ∧ R 73 0 (enumL 0 as) [] I (fun r I' => r = t.2.1 ∧ I' = t.2.2) := by
  intro as I t h X hX
  unfold p73 at h
  split at h
  · split at h
    next hb =>
      simp only [Bool.or_eq_true] at hb
      cases h
      exact ⟨hX, R73 (hb.elim (fun q => Or.inl (Nat.eq_of_beq_eq_true q)) (fun q => Or.inr (Nat.eq_of_beq_eq_true q))) ⟨rfl, rfl⟩⟩
    next => cases h
  · cases h
def p106 (as : List AV) (I : Mem) : Option ((Prop → Prop) × Option AV × Mem) := match as with
  | [.inl a0, .inl a1, .inl a2] => some (fun X => X, some (.inl (b2i (inI a0 a1 a2))), I)
  | _ => none
theorem p106_ok : ∀ as I t, p106 as I = some t → ∀ X : Prop, t.1 X → X ∧ R 106 0 (enumL 0 as) [] I (fun r I' => r = t.2.1 ∧ I' = t.2.2) := by
  intro as I t h X hX
  unfold p106 at h
  split at h
  · cases h; exact ⟨hX, R106 ⟨rfl, rfl⟩⟩
  · cases h
def p107 (as : List AV) (I : Mem) : Option ((Prop → Prop) × Option AV × Mem) := match as with
  | [.inl a0] => some (fun X => X, some (.inl (b2i (isDig a0))), I)
  | _ => none
theorem p107_ok : ∀ as I t, p107 as I = some t → ∀ X : Prop, t.1 X → X ∧ R 107 0 (enumL 0 as) [] I (fun r I' => r = t.2.1 ∧ I' = t.2.2) := by
  intro as I t h X hX
  unfold p107 at h
  split at h
  · cases h; exact ⟨hX, R107 ⟨rfl, rfl⟩⟩
  · cases h
def p108 (as : List AV) (I : Mem) : Option ((Prop → Prop) × Option AV × Mem) := match as with
  | [.inl a0] => some (fun X => X, some (.inl (b2i (isVal a0))), I)
  | _ => none
theorem p108_ok : ∀ as I t, p108 as I = some t → ∀ X : Prop, t.1 X → X ∧ R 108 0 (enumL 0 as) [] I (fun r I' => r = t.2.1 ∧ I' = t.2.2) := by
  intro as I t h X hX
  unfold p108 at h
  split at h
  · cases h; exact ⟨hX, R108 ⟨rfl, rfl⟩⟩
  · cases h
def p109 (as : List AV) (I : Mem) : Option ((Prop → Prop) × Option AV × Mem) := match as with
  | [.inl a0] => some (fun X => X, some (.inl (b2i (isInp a0))), I)
  | _ => none
theorem p109_ok : ∀ as I t, p109 as I = some t → ∀ X : Prop, t.1 X → X ∧ R 109 0 (enumL 0 as) [] I (fun r I' => r = t.2.1 ∧ I' = t.2.2) := by
  intro as I t h X hX
  unfold p109 at h
  split at h
  · cases h; exact ⟨hX, R109 ⟨rfl, rfl⟩⟩
  · cases h
def p110 (as : List AV) (I : Mem) : Option ((Prop → Prop) × Option AV × Mem) := match as with
  | [.inl a0] => some (fun X => X, some (.inl (b2i (isFun a0))), I)
  | _ => none
theorem p110_ok : ∀ as I t, p110 as I = some t → ∀ X : Prop, t.1 X → X ∧ R 110 0 (enumL 0 as) [] I (fun r I' => r = t.2.1 ∧ I' = t.2.2) := by
  intro as I t h X hX
  unfold p110 at h
  split at h
  · cases h; exact ⟨hX, R110 ⟨rfl, rfl⟩⟩
  · cases h
def p111 (as : List AV) (I : Mem) : Option ((Prop → Prop) × Option AV × Mem) := match as with
  | [.inl a0] => some (fun X => X, some (.inl (b2i (isOpr a0))), I)
  | _ => none
theorem p111_ok : ∀ as I t, p111 as I = some t → ∀ X : Prop, t.1 X → X ∧ R 111 0 (enumL 0 as) [] I (fun r I' => r = t.2.1 ∧ I' = t.2.2) := by
  intro as I t h X hX
  unfold p111 at h
  split at h
  · cases h; exact ⟨hX, R111 ⟨rfl, rfl⟩⟩
  · cases h
def p112 (as : List AV) (I : Mem) : Option ((Prop → Prop) × Option AV × Mem) := match as with
  | [.inl a0] => some (fun X => X, some (.inl (((pts a0 : Nat) : Int))), I)
  | _ => none
theorem p112_ok : ∀ as I t, p112 as I = some t → ∀ X : Prop, t.1 X → X ∧ R 112 0 (enumL 0 as) [] I (fun r I' => r = t.2.1 ∧ I' = t.2.2) := by
  intro as I t h X hX
  unfold p112 at h
  split at h
  · cases h; exact ⟨hX, R112 ⟨rfl, rfl⟩⟩
  · cases h
def p113 (as : List AV) (I : Mem) : Option ((Prop → Prop) × Option AV × Mem) := match as with
  | [.inl a0] => some (fun X => X, some (.inl (((hds a0 - 1 : Nat) : Int))), I)
  | _ => none
theorem p113_ok : ∀ as I t, p113 as I = some t → ∀ X : Prop, t.1 X → X ∧ R 113 0 (enumL 0 as) [] I (fun r I' => r = t.2.1 ∧ I' = t.2.2) := by
  intro as I t h X hX
  unfold p113 at h
  split at h
  · cases h; exact ⟨hX, R113 ⟨rfl, rfl⟩⟩
  · cases h
def p116 (as : List AV) (I : Mem) : Option ((Prop → Prop) × Option AV × Mem) := match as with
  | [.inr (some t), .inl a1] => (match Nat.beq t 77 with
    | true => some (fun X => (inb (I 77 13) 400) ∧ X, none, upd2 (upd2 I 85 (I 77 13).toNat a1) 77 13 (wrap (I 77 13 + 1)))
    | false => none)
  | _ => none
theorem p116_ok : ∀ as I t, p116 as I = some t → ∀ X : Prop, t.1 X → X ∧ R 116 0 (enumL 0 as) [] I (fun r I' => r = t.2.1 ∧ I' = t.2.2) := by
  intro as I t h X hX
  unfold p116 at h
  split at h
  · split at h
    next hb =>
      have e1 := Nat.eq_of_beq_eq_true hb
      subst e1
      cases h
      exact ⟨hX.2, R116 hX.1 ⟨rfl, rfl⟩⟩
    next => cases h
  · cases h
def p124 (as : List AV) (I : Mem) : Option ((Prop → Prop) × Option AV × Mem) := match as with
  | [.inr (some t), .inl a1] => (match Nat.beq t 77 with
    | true => some (fun X => (mletP I a1) ∧ X, some (.inl (mlet I a1)), I)
    | false => none)
  | _ => none
theorem p124_ok : ∀ as I t, p124 as I = some t → ∀ X : Prop, t.1 X → X ∧ R 124 0 (enumL 0 as) [] I (fun r I' => r = t.2.1 ∧ I' = t.2.2) := by
  intro as I t h X hX
  unfold p124 at h
  split at h
  · split at h
    next hb =>
      have e1 := Nat.eq_of_beq_eq_true hb
      subst e1
      cases h
      exact ⟨hX.2, R124 hX.1 ⟨rfl, rfl⟩⟩
    next => cases h
  · cases h
def p125 (as : List AV) (I : Mem) : Option ((Prop → Prop) × Option AV × Mem) := match as with
  | [.inr (some t), .inl a1, .inl a2] => (match Nat.beq t 77 with
    | true => some (fun X => (mkidP a1 a2) ∧ X, some (.inl (mkid I a1 a2)), I)
    | false => none)
  | _ => none
theorem p125_ok : ∀ as I t, p125 as I = some t → ∀ X : Prop, t.1 X → X ∧ R 125 0 (enumL 0 as) [] I (fun r I' => r = t.2.1 ∧ I' = t.2.2) := by
  intro as I t h X hX
  unfold p125 at h
  split at h
  · split at h
    next hb =>
      have e1 := Nat.eq_of_beq_eq_true hb
      subst e1
      cases h
      exact ⟨hX.2, R125 hX.1 ⟨rfl, rfl⟩⟩
    next => cases h
  · cases h
def p128 (as : List AV) (I : Mem) : Option ((Prop → Prop) × Option AV × Mem) := match as with
  | [.inr (some t), .inl a1] => (match Nat.beq t 77 with
    | true => some (fun X => X, some (.inl (b2i (inI a1 0 (wrap (I 77 20 - 1))))), I)
    | false => none)
  | _ => none
theorem p128_ok : ∀ as I t, p128 as I = some t → ∀ X : Prop, t.1 X → X ∧ R 128 0 (enumL 0 as) [] I (fun r I' => r = t.2.1 ∧ I' = t.2.2) := by
  intro as I t h X hX
  unfold p128 at h
  split at h
  · split at h
    next hb =>
      have e1 := Nat.eq_of_beq_eq_true hb
      subst e1
      cases h
      exact ⟨hX, R128 ⟨rfl, rfl⟩⟩
    next => cases h
  · cases h
def p129 (as : List AV) (I : Mem) : Option ((Prop → Prop) × Option AV × Mem) := match as with
  | [.inr (some t), .inl a1] => (match Nat.beq t 77 with
    | true => some (fun X => (mletP I a1) ∧ X, some (.inl (b2i (decide (mlet I a1 = 33)))), I)
    | false => none)
  | _ => none
theorem p129_ok : ∀ as I t, p129 as I = some t → ∀ X : Prop, t.1 X → X ∧ R 129 0 (enumL 0 as) [] I (fun r I' => r = t.2.1 ∧ I' = t.2.2) := by
  intro as I t h X hX
  unfold p129 at h
  split at h
  · split at h
    next hb =>
      have e1 := Nat.eq_of_beq_eq_true hb
      subst e1
      cases h
      exact ⟨hX.2, R129 hX.1 ⟨rfl, rfl⟩⟩
    next => cases h
  · cases h
def p130 (as : List AV) (I : Mem) : Option ((Prop → Prop) × Option AV × Mem) := match as with
  | [.inr (some t), .inl a1] => (match Nat.beq t 77 with
    | true => some (fun X => (mfunP I a1) ∧ X, some (.inl (mfun I a1)), I)
    | false => none)
  | _ => none
theorem p130_ok : ∀ as I t, p130 as I = some t → ∀ X : Prop, t.1 X → X ∧ R 130 0 (enumL 0 as) [] I (fun r I' => r = t.2.1 ∧ I' = t.2.2) := by
  intro as I t h X hX
  unfold p130 at h
  split at h
  · split at h
    next hb =>
      have e1 := Nat.eq_of_beq_eq_true hb
      subst e1
      cases h
      exact ⟨hX.2, R130 hX.1 ⟨rfl, rfl⟩⟩
    next => cases h
  · cases h
def p134 (as : List AV) (I : Mem) : Option ((Prop → Prop) × Option AV × Mem) := match as with
  | [.inr (some t), .inl a1] => (match Nat.beq t 77 with
    | true => some (fun X => (inb (wrap (a1 - 65)) 6) ∧ X, some (.inl (b2i (mjmp (I 99 (wrap (a1 - 65)).toNat)))), I)
    | false => none)
  | _ => none
theorem p134_ok : ∀ as I t, p134 as I = some t → ∀ X : Prop, t.1 X → X ∧ R 134 0 (enumL 0 as) [] I (fun r I' => r = t.2.1 ∧ I' = t.2.2) := by
  intro as I t h X hX
  unfold p134 at h
  split at h
  · split at h
    next hb =>
      have e1 := Nat.eq_of_beq_eq_true hb
      subst e1
      cases h
      exact ⟨hX.2, R134 hX.1 ⟨rfl, rfl⟩⟩
    next => cases h
  · cases h
def p139 (as : List AV) (I : Mem) : Option ((Prop → Prop) × Option AV × Mem) := match as with
  | [.inl a0, .inl a1, .inl a2] => some (fun X => X, some (.inl (oper a0 a1 a2)), I)
  | _ => none
theorem p139_ok : ∀ as I t, p139 as I = some t → ∀ X : Prop, t.1 X → X ∧ R 139 0 (enumL 0 as) [] I (fun r I' => r = t.2.1 ∧ I' = t.2.2) := by
  intro as I t h X hX
  unfold p139 at h
  split at h
  · cases h; exact ⟨hX, R139 ⟨rfl, rfl⟩⟩
  · cases h
def p140 (as : List AV) (I : Mem) : Option ((Prop → Prop) × Option AV × Mem) := match as with
  | [.inr (some t), .inl a1] => (match Nat.beq t 77 with
    | true => some (fun X => (mletP I a1) ∧ X, some (.inl (wrap (mlet I a1 - 48))), I)
    | false => none)
  | _ => none
theorem p140_ok : ∀ as I t, p140 as I = some t → ∀ X : Prop, t.1 X → X ∧ R 140 0 (enumL 0 as) [] I (fun r I' => r = t.2.1 ∧ I' = t.2.2) := by
  intro as I t h X hX
  unfold p140 at h
  split at h
  · split at h
    next hb =>
      have e1 := Nat.eq_of_beq_eq_true hb
      subst e1
      cases h
      exact ⟨hX.2, R140 hX.1 ⟨rfl, rfl⟩⟩
    next => cases h
  · cases h
def p143 (as : List AV) (I : Mem) : Option ((Prop → Prop) × Option AV × Mem) := match as with
  | [.inr (some t), .inl a1] => (match Nat.beq t 77 with
    | true => some (fun X => (inb (I 77 34) 60) ∧ X, none, upd2 (upd2 I 100 (I 77 34).toNat a1) 77 34 (wrap (I 77 34 + 1)))
    | false => none)
  | _ => none
theorem p143_ok : ∀ as I t, p143 as I = some t → ∀ X : Prop, t.1 X → X ∧ R 143 0 (enumL 0 as) [] I (fun r I' => r = t.2.1 ∧ I' = t.2.2) := by
  intro as I t h X hX
  unfold p143 at h
  split at h
  · split at h
    next hb =>
      have e1 := Nat.eq_of_beq_eq_true hb
      subst e1
      cases h
      exact ⟨hX.2, R143 hX.1 ⟨rfl, rfl⟩⟩
    next => cases h
  · cases h
def p158 (as : List AV) (I : Mem) : Option ((Prop → Prop) × Option AV × Mem) := match as with
  | [.inr (some t), .inl a1, .inl a2, .inl a3] => (match Nat.beq t 77 with
    | true => some (fun X => (inb (I 77 43) 320) ∧ X, some (.inl (wrap (wrap (I 77 43 + 1) - 1))), mkn I a1 a2 a3)
    | false => none)
  | _ => none
theorem p158_ok : ∀ as I t, p158 as I = some t → ∀ X : Prop, t.1 X → X ∧ R 158 0 (enumL 0 as) [] I (fun r I' => r = t.2.1 ∧ I' = t.2.2) := by
  intro as I t h X hX
  unfold p158 at h
  split at h
  · split at h
    next hb =>
      have e1 := Nat.eq_of_beq_eq_true hb
      subst e1
      cases h
      exact ⟨hX.2, R158 hX.1 ⟨rfl, rfl⟩⟩
    next => cases h
  · cases h
def pr (k : Nat) (as : List AV) (I : Mem) : Option ((Prop → Prop) × Option AV × Mem) :=
  (match Nat.beq k 5 with
    | true => p5 as I
    | false => (match Nat.beq k 6 with
    | true => p6 as I
    | false => (match Nat.beq k 7 with
    | true => p7 as I
    | false => (match Nat.beq k 8 with
    | true => p8 as I
    | false => (match Nat.beq k 9 with
    | true => p9 as I
    | false => (match Nat.beq k 15 with
    | true => p15 as I
    | false => (match Nat.beq k 16 with
    | true => p16 as I
    | false => (match Nat.beq k 17 with
    | true => p17 as I
    | false => (match Nat.beq k 18 with
    | true => p18 as I
    | false => (match Nat.beq k 19 with
    | true => p19 as I
    | false => (match Nat.beq k 20 with
    | true => p20 as I
    | false => (match Nat.beq k 21 with
    | true => p21 as I
    | false => (match Nat.beq k 22 with
    | true => p22 as I
    | false => (match Nat.beq k 23 with
    | true => p23 as I
    | false => (match Nat.beq k 27 with
    | true => p27 as I
    | false => (match Nat.beq k 35 with
    | true => p35 as I
    | false => (match Nat.beq k 47 with
    | true => p47 as I
    | false => (match Nat.beq k 70 with
    | true => p70 as I
    | false => (match Nat.beq k 71 with
    | true => p71 as I
    | false => (match Nat.beq k 72 with
    | true => p72 as I
    | false => (match Nat.beq k 73 with
    | true => p73 as I
    | false => (match Nat.beq k 106 with
    | true => p106 as I
    | false => (match Nat.beq k 107 with
    | true => p107 as I
    | false => (match Nat.beq k 108 with
    | true => p108 as I
    | false => (match Nat.beq k 109 with
    | true => p109 as I
    | false => (match Nat.beq k 110 with
    | true => p110 as I
    | false => (match Nat.beq k 111 with
    | true => p111 as I
    | false => (match Nat.beq k 112 with
    | true => p112 as I
    | false => (match Nat.beq k 113 with
    | true => p113 as I
    | false => (match Nat.beq k 116 with
    | true => p116 as I
    | false => (match Nat.beq k 124 with
    | true => p124 as I
    | false => (match Nat.beq k 125 with
    | true => p125 as I
    | false => (match Nat.beq k 128 with
    | true => p128 as I
    | false => (match Nat.beq k 129 with
    | true => p129 as I
    | false => (match Nat.beq k 130 with
    | true => p130 as I
    | false => (match Nat.beq k 134 with
    | true => p134 as I
    | false => (match Nat.beq k 139 with
    | true => p139 as I
    | false => (match Nat.beq k 140 with
    | true => p140 as I
    | false => (match Nat.beq k 143 with
    | true => p143 as I
    | false => (match Nat.beq k 158 with
    | true => p158 as I
    | false => pAtPut k as I))))))))))))))))))))))))))))))))))))))))
theorem pr_ok : PrimOk pr := by
  intro k as I t h
  unfold pr at h
  cases hb5 : Nat.beq k 5 with
  | true =>
    rw [hb5] at h
    have e1 := Nat.eq_of_beq_eq_true hb5
    subst e1
    exact p5_ok as I t h
  | false =>
    rw [hb5] at h
    dsimp only at h
    cases hb6 : Nat.beq k 6 with
    | true =>
      rw [hb6] at h
      have e1 := Nat.eq_of_beq_eq_true hb6
      subst e1
      exact p6_ok as I t h
    | false =>
      rw [hb6] at h
      dsimp only at h
      cases hb7 : Nat.beq k 7 with
      | true =>
        rw [hb7] at h
        have e1 := Nat.eq_of_beq_eq_true hb7
        subst e1
        exact p7_ok as I t h
      | false =>
        rw [hb7] at h
        dsimp only at h
        cases hb8 : Nat.beq k 8 with
        | true =>
          rw [hb8] at h
          have e1 := Nat.eq_of_beq_eq_true hb8
          subst e1
          exact p8_ok as I t h
        | false =>
          rw [hb8] at h
          dsimp only at h
          cases hb9 : Nat.beq k 9 with
          | true =>
            rw [hb9] at h
            have e1 := Nat.eq_of_beq_eq_true hb9
            subst e1
            exact p9_ok as I t h
          | false =>
            rw [hb9] at h
            dsimp only at h
            cases hb15 : Nat.beq k 15 with
            | true =>
              rw [hb15] at h
              have e1 := Nat.eq_of_beq_eq_true hb15
              subst e1
              exact p15_ok as I t h
            | false =>
              rw [hb15] at h
              dsimp only at h
              cases hb16 : Nat.beq k 16 with
              | true =>
                rw [hb16] at h
                have e1 := Nat.eq_of_beq_eq_true hb16
                subst e1
                exact p16_ok as I t h
              | false =>
                rw [hb16] at h
                dsimp only at h
                cases hb17 : Nat.beq k 17 with
                | true =>
                  rw [hb17] at h
                  have e1 := Nat.eq_of_beq_eq_true hb17
                  subst e1
                  exact p17_ok as I t h
                | false =>
                  rw [hb17] at h
                  dsimp only at h
                  cases hb18 : Nat.beq k 18 with
                  | true =>
                    rw [hb18] at h
                    have e1 := Nat.eq_of_beq_eq_true hb18
                    subst e1
                    exact p18_ok as I t h
                  | false =>
                    rw [hb18] at h
                    dsimp only at h
                    cases hb19 : Nat.beq k 19 with
                    | true =>
                      rw [hb19] at h
                      have e1 := Nat.eq_of_beq_eq_true hb19
                      subst e1
                      exact p19_ok as I t h
                    | false =>
                      rw [hb19] at h
                      dsimp only at h
                      cases hb20 : Nat.beq k 20 with
                      | true =>
                        rw [hb20] at h
                        have e1 := Nat.eq_of_beq_eq_true hb20
                        subst e1
                        exact p20_ok as I t h
                      | false =>
                        rw [hb20] at h
                        dsimp only at h
                        cases hb21 : Nat.beq k 21 with
                        | true =>
                          rw [hb21] at h
                          have e1 := Nat.eq_of_beq_eq_true hb21
                          subst e1
                          exact p21_ok as I t h
                        | false =>
                          rw [hb21] at h
                          dsimp only at h
                          cases hb22 : Nat.beq k 22 with
                          | true =>
                            rw [hb22] at h
                            have e1 := Nat.eq_of_beq_eq_true hb22
                            subst e1
                            exact p22_ok as I t h
                          | false =>
                            rw [hb22] at h
                            dsimp only at h
                            cases hb23 : Nat.beq k 23 with
                            | true =>
                              rw [hb23] at h
                              have e1 := Nat.eq_of_beq_eq_true hb23
                              subst e1
                              exact p23_ok as I t h
                            | false =>
                              rw [hb23] at h
                              dsimp only at h
                              cases hb27 : Nat.beq k 27 with
                              | true =>
                                rw [hb27] at h
                                have e1 := Nat.eq_of_beq_eq_true hb27
                                subst e1
                                exact p27_ok as I t h
                              | false =>
                                rw [hb27] at h
                                dsimp only at h
                                cases hb35 : Nat.beq k 35 with
                                | true =>
                                  rw [hb35] at h
                                  have e1 := Nat.eq_of_beq_eq_true hb35
                                  subst e1
                                  exact p35_ok as I t h
                                | false =>
                                  rw [hb35] at h
                                  dsimp only at h
                                  cases hb47 : Nat.beq k 47 with
                                  | true =>
                                    rw [hb47] at h
                                    have e1 := Nat.eq_of_beq_eq_true hb47
                                    subst e1
                                    exact p47_ok as I t h
                                  | false =>
                                    rw [hb47] at h
                                    dsimp only at h
                                    cases hb70 : Nat.beq k 70 with
                                    | true =>
                                      rw [hb70] at h
                                      have e1 := Nat.eq_of_beq_eq_true hb70
                                      subst e1
                                      exact p70_ok as I t h
                                    | false =>
                                      rw [hb70] at h
                                      dsimp only at h
                                      cases hb71 : Nat.beq k 71 with
                                      | true =>
                                        rw [hb71] at h
                                        have e1 := Nat.eq_of_beq_eq_true hb71
                                        subst e1
                                        exact p71_ok as I t h
                                      | false =>
                                        rw [hb71] at h
                                        dsimp only at h
                                        cases hb72 : Nat.beq k 72 with
                                        | true =>
                                          rw [hb72] at h
                                          have e1 := Nat.eq_of_beq_eq_true hb72
                                          subst e1
                                          exact p72_ok as I t h
                                        | false =>
                                          rw [hb72] at h
                                          dsimp only at h
                                          cases hb73 : Nat.beq k 73 with
                                          | true =>
                                            rw [hb73] at h
                                            have e1 := Nat.eq_of_beq_eq_true hb73
                                            subst e1
                                            exact p73_ok as I t h
                                          | false =>
                                            rw [hb73] at h
                                            dsimp only at h
                                            cases hb106 : Nat.beq k 106 with
                                            | true =>
                                              rw [hb106] at h
                                              have e1 := Nat.eq_of_beq_eq_true hb106
                                              subst e1
                                              exact p106_ok as I t h
                                            | false =>
                                              rw [hb106] at h
                                              dsimp only at h
                                              cases hb107 : Nat.beq k 107 with
                                              | true =>
                                                rw [hb107] at h
                                                have e1 := Nat.eq_of_beq_eq_true hb107
                                                subst e1
                                                exact p107_ok as I t h
                                              | false =>
                                                rw [hb107] at h
                                                dsimp only at h
                                                cases hb108 : Nat.beq k 108 with
                                                | true =>
                                                  rw [hb108] at h
                                                  have e1 := Nat.eq_of_beq_eq_true hb108
                                                  subst e1
                                                  exact p108_ok as I t h
                                                | false =>
                                                  rw [hb108] at h
                                                  dsimp only at h
                                                  cases hb109 : Nat.beq k 109 with
                                                  | true =>
                                                    rw [hb109] at h
                                                    have e1 := Nat.eq_of_beq_eq_true hb109
                                                    subst e1
                                                    exact p109_ok as I t h
                                                  | false =>
                                                    rw [hb109] at h
                                                    dsimp only at h
                                                    cases hb110 : Nat.beq k 110 with
                                                    | true =>
                                                      rw [hb110] at h
                                                      have e1 := Nat.eq_of_beq_eq_true hb110
                                                      subst e1
                                                      exact p110_ok as I t h
                                                    | false =>
                                                      rw [hb110] at h
                                                      dsimp only at h
                                                      cases hb111 : Nat.beq k 111 with
                                                      | true =>
                                                        rw [hb111] at h
                                                        have e1 := Nat.eq_of_beq_eq_true hb111
                                                        subst e1
                                                        exact p111_ok as I t h
                                                      | false =>
                                                        rw [hb111] at h
                                                        dsimp only at h
                                                        cases hb112 : Nat.beq k 112 with
                                                        | true =>
                                                          rw [hb112] at h
                                                          have e1 := Nat.eq_of_beq_eq_true hb112
                                                          subst e1
                                                          exact p112_ok as I t h
                                                        | false =>
                                                          rw [hb112] at h
                                                          dsimp only at h
                                                          cases hb113 : Nat.beq k 113 with
                                                          | true =>
                                                            rw [hb113] at h
                                                            have e1 := Nat.eq_of_beq_eq_true hb113
                                                            subst e1
                                                            exact p113_ok as I t h
                                                          | false =>
                                                            rw [hb113] at h
                                                            dsimp only at h
                                                            cases hb116 : Nat.beq k 116 with
                                                            | true =>
                                                              rw [hb116] at h
                                                              have e1 := Nat.eq_of_beq_eq_true hb116
                                                              subst e1
                                                              exact p116_ok as I t h
                                                            | false =>
                                                              rw [hb116] at h
                                                              dsimp only at h
                                                              cases hb124 : Nat.beq k 124 with
                                                              | true =>
                                                                rw [hb124] at h
                                                                have e1 := Nat.eq_of_beq_eq_true hb124
                                                                subst e1
                                                                exact p124_ok as I t h
                                                              | false =>
                                                                rw [hb124] at h
                                                                dsimp only at h
                                                                cases hb125 : Nat.beq k 125 with
                                                                | true =>
                                                                  rw [hb125] at h
                                                                  have e1 := Nat.eq_of_beq_eq_true hb125
                                                                  subst e1
                                                                  exact p125_ok as I t h
                                                                | false =>
                                                                  rw [hb125] at h
                                                                  dsimp only at h
                                                                  cases hb128 : Nat.beq k 128 with
                                                                  | true =>
                                                                    rw [hb128] at h
                                                                    have e1 := Nat.eq_of_beq_eq_true hb128
                                                                    subst e1
                                                                    exact p128_ok as I t h
                                                                  | false =>
                                                                    rw [hb128] at h
                                                                    dsimp only at h
                                                                    cases hb129 : Nat.beq k 129 with
                                                                    | true =>
                                                                      rw [hb129] at h
                                                                      have e1 := Nat.eq_of_beq_eq_true hb129
                                                                      subst e1
                                                                      exact p129_ok as I t h
                                                                    | false =>
                                                                      rw [hb129] at h
                                                                      dsimp only at h
                                                                      cases hb130 : Nat.beq k 130 with
                                                                      | true =>
                                                                        rw [hb130] at h
                                                                        have e1 := Nat.eq_of_beq_eq_true hb130
                                                                        subst e1
                                                                        exact p130_ok as I t h
                                                                      | false =>
                                                                        rw [hb130] at h
                                                                        dsimp only at h
                                                                        cases hb134 : Nat.beq k 134 with
                                                                        | true =>
                                                                          rw [hb134] at h
                                                                          have e1 := Nat.eq_of_beq_eq_true hb134
                                                                          subst e1
                                                                          exact p134_ok as I t h
                                                                        | false =>
                                                                          rw [hb134] at h
                                                                          dsimp only at h
                                                                          cases hb139 : Nat.beq k 139 with
                                                                          | true =>
                                                                            rw [hb139] at h
                                                                            have e1 := Nat.eq_of_beq_eq_true hb139
                                                                            subst e1
                                                                            exact p139_ok as I t h
                                                                          | false =>
                                                                            rw [hb139] at h
                                                                            dsimp only at h
                                                                            cases hb140 : Nat.beq k 140 with
                                                                            | true =>
                                                                              rw [hb140] at h
                                                                              have e1 := Nat.eq_of_beq_eq_true hb140
                                                                              subst e1
                                                                              exact p140_ok as I t h
                                                                            | false =>
                                                                              rw [hb140] at h
                                                                              dsimp only at h
                                                                              cases hb143 : Nat.beq k 143 with
                                                                              | true =>
                                                                                rw [hb143] at h
                                                                                have e1 := Nat.eq_of_beq_eq_true hb143
                                                                                subst e1
                                                                                exact p143_ok as I t h
                                                                              | false =>
                                                                                rw [hb143] at h
                                                                                dsimp only at h
                                                                                cases hb158 : Nat.beq k 158 with
                                                                                | true =>
                                                                                  rw [hb158] at h
                                                                                  have e1 := Nat.eq_of_beq_eq_true hb158
                                                                                  subst e1
                                                                                  exact p158_ok as I t h
                                                                                | false =>
                                                                                  rw [hb158] at h
                                                                                  dsimp only at h
                                                                                  exact pAtPut_ok k as I t h
