/-! What holds after t turns. -/
def MI (H : List Hd) (t : Nat) (I : Mem) (o S L : Nat) : Prop := I 26 11 = (o : Int) ∧ I 26 2 = (S : Int) ∧ I 26 15 = (L : Int) ∧ o ≤ 100 ∧ 1 ≤ S ∧ S ≤ 300 ∧ t + o + 1 = 2 * S ∧ L + 1 ≤ S ∧ (0 ≤ I 26 3 ∧ I 26 3 ≤ (t : Int)) ∧
  (∀ r, r < 60 → 0 ≤ I 27 r ∧ I 27 r ≤ (S : Int)) ∧ (∀ r, r < 3 → -(t : Int) ≤ I 29 r ∧ I 29 r ≤ (t : Int)) ∧ (∀ d, d < o → ∃ p g : Nat, I 30 d = (p : Int) ∧ p < H.length ∧ I 32 d = (g : Int) ∧ g ≤ 2)
theorem begF_MI {H : List Hd} {t : Nat} {I J : Mem} {o S L L' : Nat} {q : Nat} {s : Int} (h60 : H.length ≤ 60) (h : MI H t I o S L) (ho : 0 < o) (hq : q < H.length) (j0 : J 26 0 = 0) (j11 : J 26 11 = (o : Int)) (j2 : J 26 2 = (S : Int)) (j15 : J 26 15 = (L' : Int)) (hL' : L' ≤ L + 1)
    (j3 : 0 ≤ J 26 3 ∧ J 26 3 ≤ (t : Int) + 1) (j27 : J 27 = I 27) (j29 : ∀ r, r < 3 → -((t : Int) + 1) ≤ J 29 r ∧ J 29 r ≤ (t : Int) + 1) (j30 : J 30 = I 30) (j32 : ∀ d, d < o → ∃ g : Nat, J 32 d = (g : Int) ∧ g ≤ 2) :
    (begF J q s 26 0 = 1 ∧ begF J q s 26 11 = (o : Int)) ∨ (begF J q s 26 0 = 0 ∧ MI H (t + 1) (begF J q s) (o + 1) (S + 1) L') := by
  obtain ⟨m1, m2, m3, m4, m5, m6, m7, m8, m9, m10, m11, m12⟩ := h
  unfold begF
  by_cases hc : 300 ≤ J 26 2 ∨ 100 ≤ J 26 11
  · rw [if_pos hc]
    left
    refine ⟨by simp [upd2], ?_⟩
    rw [upd2_at, if_neg (by omega)]
    exact j11
  · rw [if_neg hc]
    right
    have hop : opn J = o := by unfold opn; rw [j11]; rfl
    rw [hop]
    refine ⟨?_, ?_⟩
    · simp [upd2]
      exact j0
    · refine ⟨?_, ?_, ?_, by omega, by omega, by omega, by omega, by omega, ?_, fun r hr => ?_, fun r hr => ?_, fun d hd => ?_⟩
      · rw [upd2_at, if_pos ⟨rfl, rfl⟩, j11]; omega
      · have : upd2 (upd2 (upd2 (upd2 (upd2 (upd2 J 26 2 (J 26 2 + 1)) 27 q (J 27 q + 1)) 30 o (q : Int)) 31 o s) 32 o 0) 26 11 (J 26 11 + 1) 26 2 = J 26 2 + 1 := by simp [upd2]
        rw [this, j2]; omega
      · have : upd2 (upd2 (upd2 (upd2 (upd2 (upd2 J 26 2 (J 26 2 + 1)) 27 q (J 27 q + 1)) 30 o (q : Int)) 31 o s) 32 o 0) 26 11 (J 26 11 + 1) 26 15 = J 26 15 := by simp [upd2]
        rw [this, j15]
      · have : upd2 (upd2 (upd2 (upd2 (upd2 (upd2 J 26 2 (J 26 2 + 1)) 27 q (J 27 q + 1)) 30 o (q : Int)) 31 o s) 32 o 0) 26 11 (J 26 11 + 1) 26 3 = J 26 3 := by simp [upd2]
        rw [this]; omega
      · have : upd2 (upd2 (upd2 (upd2 (upd2 (upd2 J 26 2 (J 26 2 + 1)) 27 q (J 27 q + 1)) 30 o (q : Int)) 31 o s) 32 o 0) 26 11 (J 26 11 + 1) 27 r = if r = q then J 27 q + 1 else J 27 r := by
          simp [upd2]
        rw [this, j27]
        have a1 := m10 r hr
        have a2 := m10 q (by omega)
        split <;> omega
      · have : upd2 (upd2 (upd2 (upd2 (upd2 (upd2 J 26 2 (J 26 2 + 1)) 27 q (J 27 q + 1)) 30 o (q : Int)) 31 o s) 32 o 0) 26 11 (J 26 11 + 1) 29 r = J 29 r := by simp [upd2]
        rw [this]
        have := j29 r hr
        omega
      · have e30 : upd2 (upd2 (upd2 (upd2 (upd2 (upd2 J 26 2 (J 26 2 + 1)) 27 q (J 27 q + 1)) 30 o (q : Int)) 31 o s) 32 o 0) 26 11 (J 26 11 + 1) 30 d = if d = o then (q : Int) else J 30 d := by simp [upd2]
        have e32 : upd2 (upd2 (upd2 (upd2 (upd2 (upd2 J 26 2 (J 26 2 + 1)) 27 q (J 27 q + 1)) 30 o (q : Int)) 31 o s) 32 o 0) 26 11 (J 26 11 + 1) 32 d = if d = o then 0 else J 32 d := by simp [upd2]
        rw [e30, e32]
        by_cases hdo : d = o
        · rw [if_pos hdo, if_pos hdo]
          exact ⟨q, 0, rfl, hq, rfl, by omega⟩
        · rw [if_neg hdo, if_neg hdo, j30]
          obtain ⟨p, g, a1, a2, -, -⟩ := m12 d (by omega)
          obtain ⟨g', b1, b2⟩ := j32 d (by omega)
          exact ⟨p, g', a1, a2, b1, b2⟩
theorem givF_MI {H : List Hd} {t : Nat} {I J : Mem} {o S L : Nat} {v : Int} (h : MI H t I (o + 1) S L) (j0 : J 26 0 = 0) (j11 : J 26 11 = ((o + 1 : Nat) : Int)) (j2 : J 26 2 = (S : Int)) (j15 : J 26 15 = (L : Int))
    (j3 : J 26 3 = I 26 3) (j27 : J 27 = I 27) (j29 : ∀ r, r < 3 → -((t : Int) + 1) ≤ J 29 r ∧ J 29 r ≤ (t : Int) + 1) (j30 : J 30 = I 30) (j32 : ∀ d, d < o → J 32 d = I 32 d) :
    givF J v 26 0 = 0 ∧ MI H (t + 1) (givF J v) o S L := by
  obtain ⟨m1, m2, m3, m4, m5, m6, m7, m8, m9, m10, m11, m12⟩ := h
  unfold givF
  have e : ∀ r, r ≠ 1 → r ≠ 11 → upd2 (upd2 J 26 1 v) 26 11 (J 26 11 - 1) 26 r = J 26 r := fun r h1 h2 => by simp [upd2, h1, h2]
  have ei : ∀ id, id ≠ 26 → upd2 (upd2 J 26 1 v) 26 11 (J 26 11 - 1) id = J id := fun id h => by rw [upd2_id h, upd2_id h]
  refine ⟨by rw [e 0 (by decide) (by decide)]; exact j0, ?_, by rw [e 2 (by decide) (by decide)]; exact j2, by rw [e 15 (by decide) (by decide)]; exact j15, by omega, m5, m6, by omega, m8, ?_, fun r hr => ?_, fun r hr => ?_, fun d hd => ?_⟩
  · rw [upd2_at, if_pos ⟨rfl, rfl⟩, j11]; omega
  · rw [e 3 (by decide) (by decide), j3]; omega
  · rw [ei 27 (by decide), j27]; exact m10 r hr
  · rw [ei 29 (by decide)]
    have := j29 r hr
    omega
  · rw [ei 30 (by decide), ei 32 (by decide), j30, j32 d hd]
    exact m12 d (by omega)
