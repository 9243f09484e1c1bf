/-! Machine.restart. -/
/-- a machine before its first expression begins -/
def Start (x y : Int) (I : Mem) : Prop := I 26 16 = x ∧ I 26 17 = y ∧ I 26 0 = 0 ∧ I 26 1 = 0 ∧ I 26 2 = 0 ∧ I 26 3 = 0 ∧ I 26 11 = 0 ∧ I 26 15 = 0 ∧ (∀ r, r < 60 → I 27 r = 0) ∧ (∀ r, r < 3 → I 28 r = 0 ∧ I 29 r = 0)
theorem restart1 {I0 : Mem} {Q : Post} (hQ : ∀ (I : Mem), (∀ id, id ≠ 27 → I id = I0 id) → (∀ r, r < 60 → I 27 r = 0) → R 25 65 [(0, .inr (some 26)), (3, .inl 0)] [] I Q) :
    ∀ (d f : Nat) (I : Mem), f + d = 60 → (∀ id, id ≠ 27 → I id = I0 id) → (∀ r, r < f → I 27 r = 0) → R 25 42 [(0, .inr (some 26)), (3, .inl (f : Int))] [] I Q := by
  intro d
  induction d with
  | zero =>
    intro f I hf hF hD
    have hf : f = 60 := by omega
    subst hf
    exact t25_42 I _ ⟨fun _ => hQ I hF hD, fun h => absurd (by omega) h⟩
  | succ d ih =>
    intro f I hf hF hD
    refine t25_42 I _ ⟨fun h => absurd h (by omega), fun _ => ?_⟩
    dsimp only
    rw [wr_nat (id := 27) (by rw [sz27]; omega), wrap_succ (by omega)]
    refine ih (f + 1) _ (by omega) (fun id h => (upd2_id h).trans (hF id h)) (fun g hg => ?_)
    rw [upd2_at]
    by_cases hgf : g = f
    · simp [hgf]
    · simp [hgf]
      exact hD g (by omega)
theorem restart2 {I0 : Mem} {Q : Post} (hQ : ∀ (I : Mem), (∀ id, id ≠ 28 → id ≠ 29 → I id = I0 id) → (∀ r, r < 3 → I 28 r = 0 ∧ I 29 r = 0) → Q none I) :
    ∀ (d f : Nat) (I : Mem), f + d = 3 → (∀ id, id ≠ 28 → id ≠ 29 → I id = I0 id) → (∀ r, r < f → I 28 r = 0 ∧ I 29 r = 0) → R 25 65 [(0, .inr (some 26)), (3, .inl (f : Int))] [] I Q := by
  intro d
  induction d with
  | zero =>
    intro f I hf hF hD
    have hf : f = 3 := by omega
    subst hf
    exact t25_65 I _ ⟨fun _ => hQ I hF hD, fun h => absurd (by omega) h⟩
  | succ d ih =>
    intro f I hf hF hD
    refine t25_65 I _ ⟨fun h => absurd h (by omega), fun _ => ?_⟩
    dsimp only
    rw [wr_nat (id := 28) (by rw [sz28]; omega), wr_nat (id := 29) (by rw [sz29]; omega), wrap_succ (by omega)]
    refine ih (f + 1) _ (by omega) (fun id h1 h2 => by rw [upd2_id h2, upd2_id h1]; exact hF id h1 h2) (fun g hg => ?_)
    rw [upd2_id (show 28 ≠ 29 by decide), upd2_at, upd2_at, upd2_id (show 29 ≠ 28 by decide)]
    by_cases hgf : g = f
    · simp [hgf]
    · simp [hgf]
      exact hD g (by omega)
theorem R_restart {I : Mem} {x y : Int} {Q : Post} (hQ : ∀ (I' : Mem), (∀ id, (id < 26 ∨ 29 < id) → I' id = I id) → Start x y I' → Q none I') : R 25 0 [(0, .inr (some 26)), (1, .inl x), (2, .inl y)] [] I Q := by
  refine t25_0 I _ _ ⟨Or.inl rfl, ?_⟩
  dsimp only
  generalize hJ : upd2 (upd2 (upd2 (upd2 (upd2 (upd2 (upd2 (upd2 I 26 16 x) 26 17 y) 26 0 0) 26 1 0) 26 2 0) 26 3 0) 26 11 0) 26 15 0 = J
  have ej : ∀ id, id ≠ 26 → J id = I id := fun id h => by rw [← hJ, upd2_id h, upd2_id h, upd2_id h, upd2_id h, upd2_id h, upd2_id h, upd2_id h, upd2_id h]
  have es : J 26 16 = x ∧ J 26 17 = y ∧ J 26 0 = 0 ∧ J 26 1 = 0 ∧ J 26 2 = 0 ∧ J 26 3 = 0 ∧ J 26 11 = 0 ∧ J 26 15 = 0 := by
    rw [← hJ]
    simp [upd2]
  refine restart1 (I0 := J) (fun I1 hF1 hD1 => ?_) 60 0 J (by omega) (fun _ _ => rfl) (fun r hr => absurd hr (by omega))
  refine restart2 (I0 := I1) (fun I2 hF2 hD2 => ?_) 3 0 I1 (by omega) (fun _ _ _ => rfl) (fun r hr => absurd hr (by omega))
  have e26 : I2 26 = J 26 := by rw [hF2 26 (by decide) (by decide), hF1 26 (by decide)]
  refine hQ I2 (fun id hid => by rw [hF2 id (by omega) (by omega), hF1 id (by omega), ej id (by omega)]) ?_
  unfold Start
  rw [e26, hF2 27 (by decide) (by decide)]
  exact ⟨es.1, es.2.1, es.2.2.1, es.2.2.2.1, es.2.2.2.2.1, es.2.2.2.2.2.1, es.2.2.2.2.2.2.1, es.2.2.2.2.2.2.2, hD1, hD2⟩
