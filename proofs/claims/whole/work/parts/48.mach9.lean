/-! Machine.execute. -/
theorem begF_id {I : Mem} {p : Nat} {s : Int} {id : Nat} (h : id < 26 ∨ 36 < id) : begF I p s id = I id := by
  unfold begF
  by_cases hc : 300 ≤ I 26 2 ∨ 100 ≤ I 26 11
  · rw [if_pos hc, upd2_id (by omega)]
  · rw [if_neg hc, upd2_id (by omega), upd2_id (by omega), upd2_id (by omega), upd2_id (by omega), upd2_id (by omega), upd2_id (by omega)]
theorem givF_id {I : Mem} {v : Int} {id : Nat} (h : id < 26 ∨ 36 < id) : givF I v id = I id := by
  unfold givF
  rw [upd2_id (by omega), upd2_id (by omega)]
theorem goF_id {H : List Hd} {I : Mem} {id : Nat} (h : id < 26 ∨ 36 < id) : goF H I id = I id := by
  unfold goF
  generalize hJ : upd2 I 32 (opn I - 1) (I 32 (opn I - 1) + 1) = J
  have ej : J id = I id := by rw [← hJ, upd2_id (by omega)]
  rw [← ej]
  have eb : ∀ (K : Mem) q s, K id = J id → begF K q s id = J id := fun K q s e => (begF_id h).trans e
  have eg : ∀ (K : Mem) v, K id = J id → givF K v id = J id := fun K v e => (givF_id h).trans e
  have el : ∀ (K : Mem) o n v, K id = J id → lnkF K o n v id = J id := fun K o n v e => (lnkF_id (by omega) (by omega) (by omega) (by omega)).trans e
  have ec : ∀ (K : Mem) c w, K id = J id → cntF K c w id = J id := fun K c w e => (cntF_id (by omega) (by omega) w).trans e
  have eu : ∀ (K : Mem) i r v, id ≠ i → K id = J id → upd2 K i r v id = J id := fun K i r v hi e => (upd2_id hi).trans e
  suffices key : ∀ P : Mem → Prop, (∀ X : Mem, X id = J id → P X) → P (goG H (opn I - 1) (I 30 (opn I - 1)).toNat (I 31 (opn I - 1)) (I 32 (opn I - 1)) J) from key (fun X => X id = J id) (fun X hx => hx)
  intro P hP
  generalize (I 31 (opn I - 1)) = s
  generalize (I 32 (opn I - 1)) = g
  generalize (I 30 (opn I - 1)).toNat = p
  generalize opn I - 1 = k
  unfold goG
  split
  next =>
    split
    next => exact hP _ (eb _ _ _ rfl)
    next =>
    split
    next => exact hP _ (eb _ _ _ (eu _ _ _ _ (by omega) rfl))
    next => exact hP _ (eg _ _ rfl)
  next =>
  split
  next =>
    split
    next => exact hP _ (eb _ _ _ rfl)
    next =>
    split
    next => exact hP _ (eb _ _ _ rfl)
    next => exact hP _ (eg _ _ rfl)
  next =>
  split
  next =>
    split
    next => exact hP _ (eb _ _ _ rfl)
    next =>
    split
    next => exact hP _ (eb _ _ _ (el _ _ _ _ rfl))
    next => exact hP _ (eg _ _ rfl)
  next =>
  split
  next =>
    split
    next => exact hP _ (eb _ _ _ (el _ _ _ _ rfl))
    next => exact hP _ (eg _ _ rfl)
  next =>
  split
  next =>
    split
    next => exact hP _ (eb _ _ _ rfl)
    next =>
    split
    next => exact hP _ (eb _ _ _ (el _ _ _ _ (ec _ _ _ (eu _ _ _ _ (by omega) rfl))))
    next => exact hP _ (eg _ _ (ec _ _ _ rfl))
  next => exact hP _ (eg _ _ rfl)
theorem MI_GoPre {H : List Hd} {t : Nat} {I : Mem} {k S L : Nat} (h : MI H t I (k + 1) S L) (hA : AnaOK I H) : ∃ p g : Nat, GoPre H I k p (g : Int) := by
  obtain ⟨m1, m2, m3, m4, m5, m6, m7, m8, m9, m10, m11, m12⟩ := h
  obtain ⟨p, g, a1, a2, a3, a4⟩ := m12 k (by omega)
  refine ⟨p, g, hA, m1, by omega, a1, a2, a3, by omega, by omega, by omega, by omega, by omega, by omega, by omega, by omega, fun r hr => ?_, fun r hr => ?_⟩
  · have := m10 r hr
    omega
  · have := m11 r hr
    omega
/-- turns until nothing is open or the run is long -/
noncomputable def runN (H : List Hd) : Nat → Mem → Mem
  | 0, I => I
  | n + 1, I => if I 26 11 ≤ 0 then I else if ¬ I 26 0 = 0 then I else runN H n (goF H I)
theorem runN_id {H : List Hd} {id : Nat} (h : id < 26 ∨ 36 < id) : ∀ n I, runN H n I id = I id := by
  intro n
  induction n with
  | zero => intro I; rfl
  | succ n ih =>
    intro I
    unfold runN
    split
    · rfl
    · split
      · rfl
      · rw [ih, goF_id h]
theorem execute_loop {H : List Hd} (hH : prog H) {Q : Post} : ∀ (n t : Nat) (I : Mem), n + t = 601 → AnaOK I H → ((I 26 0 = 1) ∨ ∃ o S L, I 26 0 = 0 ∧ MI H t I o S L) → Q none (runN H n I) →
    R 24 16 [(0, .inr (some 26)), (1, .inr (some 9)), (2, .inr (some 20)), (5, .inl (t : Int))] [] I Q := by
  intro n
  induction n with
  | zero =>
    intro t I ht hA hM hQ
    refine t24_16 I _ ⟨fun _ => hQ, fun h => absurd (by omega) h⟩
  | succ n ih =>
    intro t I ht hA hM hQ
    unfold runN at hQ
    refine t24_16 I _ ⟨fun h => absurd h (by omega), fun _ => ⟨fun h => ?_, fun h => ⟨fun h2 => ?_, fun h2 => ?_⟩⟩⟩
    · rw [if_pos h] at hQ; exact hQ
    · rw [if_neg h, if_pos h2] at hQ; exact hQ
    · rw [if_neg h, if_neg h2] at hQ
      have h0 : I 26 0 = 0 := Decidable.not_not.mp h2
      rcases hM with hM | ⟨o, S, L, -, hM⟩
      · omega
      · have ho : 0 < o := by have := hM.1; omega
        obtain ⟨k, rfl⟩ : ∃ k, o = k + 1 := ⟨o - 1, by omega⟩
        obtain ⟨p, g, hG⟩ := MI_GoPre hM hA
        refine R_go hH hG ⟨rfl, ?_⟩
        rw [wrap_succ (by omega)]
        refine ih (t + 1) _ (by omega) (hA.fr (fun id h1 h2 => goF_id (by omega))) ?_ hQ
        rcases goF_MI hH hM h0 with r | r
        · exact Or.inl r.1
        · exact Or.inr r
theorem Start_MI {H : List Hd} (hH : prog H) {x y : Int} {I : Mem} (h : Start x y I) : begF I 0 (-1) 26 0 = 0 ∧ MI H 0 (begF I 0 (-1)) 1 1 0 := by
  obtain ⟨s1, s2, s3, s4, s5, s6, s7, s8, s9, s10⟩ := h
  have hop : opn I = 0 := by unfold opn; rw [s7]; rfl
  have hlen : 0 < H.length := prog_pos hH
  unfold begF
  rw [if_neg (by omega), hop, s5, s7]
  refine ⟨?_, ?_, ?_, ?_, by omega, by omega, by omega, by omega, by omega, ?_, fun r hr => ?_, fun r hr => ?_, fun d hd => ?_⟩
  · simp [upd2]; exact s3
  · simp [upd2]
  · simp [upd2]
  · simp [upd2]; exact s8
  · simp [upd2]; omega
  · have a := s9 r hr
    have b := s9 0 (by omega)
    simp only [upd2]
    simp
    split <;> omega
  · have a := (s10 r hr).2
    simp [upd2]
    omega
  · refine ⟨0, 0, ?_, hlen, ?_, by omega⟩
    · have : d = 0 := by omega
      subst this
      simp [upd2]
    · have : d = 0 := by omega
      subst this
      simp [upd2]
theorem R_execute {H : List Hd} (hH : prog H) {I : Mem} {x y : Int} {Q : Post} (hA : AnaOK I H) (hQ : ∀ (σ : Mem), (∀ id, (id < 26 ∨ 29 < id) → σ id = I id) → Start x y σ → Q none (runN H 601 (begF σ 0 (-1)))) :
    R 24 0 [(0, .inr (some 26)), (1, .inr (some 9)), (2, .inr (some 20)), (3, .inl x), (4, .inl y)] [] I Q := by
  refine t24_0 I _ _ (R_restart (fun σ hσ hS => ⟨rfl, ?_⟩))
  have h9 := hS.2.2.2.2.2.2.2.2.1
  have h27 := h9 0 (by omega)
  refine R_begin (p := 0) (by omega) (by have := hS.2.2.2.2.1; omega) (by have := hS.2.2.2.2.2.2.1; omega) (by omega) ⟨rfl, ?_⟩
  obtain ⟨b1, b2⟩ := Start_MI hH hS
  exact execute_loop hH 601 0 _ (by omega) (hA.fr (fun id h1 h2 => by rw [begF_id (by omega), hσ id (by omega)])) (Or.inr ⟨_, _, _, b1, b2⟩) (hQ σ hσ hS)
