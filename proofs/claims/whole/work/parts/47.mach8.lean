/-! A turn keeps what holds. -/
theorem lnkF_15 {J : Mem} {o n v : Int} : lnkF J o n v 26 15 = J 26 15 + 1 := by unfold lnkF; simp [upd2]
theorem cntF_succ (I : Mem) (c : Int) (w : Nat) : ∃ v, cntF I c (w + 1) = upd2 (upd2 (cntF I c w) 29 w (cntF I c w 29 w + c)) 28 w v := ⟨_, rfl⟩
theorem cntF_29 {I : Mem} {c : Int} {b : Int} (hc : -1 ≤ c ∧ c ≤ 1) (hb : ∀ r, r < 3 → -b ≤ I 29 r ∧ I 29 r ≤ b) : ∀ w, w ≤ 3 → ∀ r, r < 3 → -(b + 1) ≤ cntF I c w 29 r ∧ cntF I c w 29 r ≤ b + 1 := by
  intro w
  induction w with
  | zero => intro _ r hr; have := hb r hr; show -(b + 1) ≤ I 29 r ∧ I 29 r ≤ b + 1; omega
  | succ w ih =>
    intro hw r hr
    have h1 := ih (by omega) r hr
    have e : cntF I c (w + 1) 29 r = if r = w then cntF I c w 29 w + c else cntF I c w 29 r := by
      obtain ⟨v, hv⟩ := cntF_succ I c w
      rw [hv, upd2_id (show 29 ≠ 28 by decide), upd2_at]
      by_cases h : r = w <;> simp [h]
    rw [e]
    split
    next h =>
      rw [cntF_ge w w (Nat.le_refl _)]
      have := hb w (by omega)
      omega
    next h => exact h1
theorem goF_MI {H : List Hd} (hH : prog H) {t : Nat} {I : Mem} {k S L : Nat} (h : MI H t I (k + 1) S L) (h0 : I 26 0 = 0) :
    (goF H I 26 0 = 1 ∧ goF H I 26 11 = ((k + 1 : Nat) : Int)) ∨ ∃ o' S' L', goF H I 26 0 = 0 ∧ MI H (t + 1) (goF H I) o' S' L' := by
  have hw := prog_wfa hH
  have h60 := prog_60 hH
  obtain ⟨m1, m2, m3, m4, m5, m6, m7, m8, m9, m10, m11, m12⟩ := id h
  obtain ⟨p, g, a1, a2, a3, a4⟩ := m12 k (by omega)
  have hop : opn I - 1 = k := by unfold opn; rw [m1]; omega
  unfold goF
  rw [hop, a1, a3, toNat_c]
  generalize hJ : upd2 I 32 k ((g : Int) + 1) = J
  have ej : ∀ id, id ≠ 32 → J id = I id := fun id hid => by rw [← hJ]; exact upd2_id hid
  have j32 : ∀ d, J 32 d = if d = k then (g : Int) + 1 else I 32 d := fun d => by rw [← hJ, upd2_at]; by_cases hd : d = k <;> simp [hd]
  have e26 := ej 26 (by decide)
  have jst : g ≤ 1 → ∀ (K : Mem), K 32 = J 32 → ∀ d, d < k + 1 → ∃ g' : Nat, K 32 d = (g' : Int) ∧ g' ≤ 2 := by
    intro hg K hK d hd
    rw [hK, j32]
    split
    · exact ⟨g + 1, by omega, by omega⟩
    · obtain ⟨-, g', -, -, b1, b2⟩ := m12 d hd
      exact ⟨g', b1, b2⟩
  have b29 : ∀ r, r < 3 → -((t : Int) + 1) ≤ J 29 r ∧ J 29 r ≤ (t : Int) + 1 := fun r hr => by rw [ej 29 (by decide)]; have := m11 r hr; omega
  -- begin, the memory K in place of J
  have beg : ∀ (K : Mem) (q : Nat) (s : Int) (L' : Nat), g ≤ 1 → q < H.length → K 26 0 = 0 → K 26 11 = ((k + 1 : Nat) : Int) → K 26 2 = (S : Int) → K 26 15 = (L' : Int) → L' ≤ L + 1 → (0 ≤ K 26 3 ∧ K 26 3 ≤ (t : Int) + 1) → K 27 = I 27 → (∀ r, r < 3 → -((t : Int) + 1) ≤ K 29 r ∧ K 29 r ≤ (t : Int) + 1) → K 30 = I 30 → K 32 = J 32 →
      (begF K q s 26 0 = 1 ∧ begF K q s 26 11 = ((k + 1 : Nat) : Int)) ∨ ∃ o' S' L', begF K q s 26 0 = 0 ∧ MI H (t + 1) (begF K q s) o' S' L' := by
    intro K q s L' hg hq k0 k11 k2 k15 hL k3 k27 k29 k30 k32
    rcases begF_MI (s := s) h60 h (by omega) hq k0 k11 k2 k15 hL k3 k27 k29 k30 (jst hg K k32) with r | r
    · exact Or.inl r
    · exact Or.inr ⟨_, _, _, r⟩
  have begJ : ∀ (q : Nat) (s : Int), g ≤ 1 → q < H.length → (begF J q s 26 0 = 1 ∧ begF J q s 26 11 = ((k + 1 : Nat) : Int)) ∨ ∃ o' S' L', begF J q s 26 0 = 0 ∧ MI H (t + 1) (begF J q s) o' S' L' := fun q s hg hq =>
    beg J q s L hg hq (by rw [e26]; exact h0) (by rw [e26]; exact m1) (by rw [e26]; exact m2) (by rw [e26]; exact m3) (by omega) (by rw [e26]; omega) (ej 27 (by decide)) b29 (ej 30 (by decide)) rfl
  have begL : ∀ (q : Nat) (o n v s : Int), g ≤ 1 → q < H.length → (begF (lnkF J o n v) q s 26 0 = 1 ∧ begF (lnkF J o n v) q s 26 11 = ((k + 1 : Nat) : Int)) ∨ ∃ o' S' L', begF (lnkF J o n v) q s 26 0 = 0 ∧ MI H (t + 1) (begF (lnkF J o n v) q s) o' S' L' := fun q o n v s hg hq =>
    beg (lnkF J o n v) q s (L + 1) hg hq (by rw [lnkF_26 (by decide), e26]; exact h0) (by rw [lnkF_26 (by decide), e26]; exact m1) (by rw [lnkF_26 (by decide), e26]; exact m2) (by rw [lnkF_15, e26, m3]; omega) (by omega) (by rw [lnkF_26 (by decide), e26]; omega) (by rw [lnkF_id (by decide) (by decide) (by decide) (by decide)]; exact ej 27 (by decide)) (by rw [lnkF_id (by decide) (by decide) (by decide) (by decide)]; exact b29) (by rw [lnkF_id (by decide) (by decide) (by decide) (by decide)]; exact ej 30 (by decide)) (by rw [lnkF_id (by decide) (by decide) (by decide) (by decide)])
  have giv : ∀ (K : Mem) (v : Int), K 26 = J 26 → K 27 = J 27 → (∀ r, r < 3 → -((t : Int) + 1) ≤ K 29 r ∧ K 29 r ≤ (t : Int) + 1) → K 30 = J 30 → K 32 = J 32 → (givF K v 26 0 = 1 ∧ givF K v 26 11 = ((k + 1 : Nat) : Int)) ∨ ∃ o' S' L', givF K v 26 0 = 0 ∧ MI H (t + 1) (givF K v) o' S' L' := by
    intro K v k26 k27 k29 k30 k32
    refine Or.inr ⟨k, S, L, givF_MI h ?_ ?_ ?_ ?_ ?_ ?_ k29 ?_ (fun d hd => ?_)⟩
    · rw [k26, e26]; exact h0
    · rw [k26, e26]; exact m1
    · rw [k26, e26]; exact m2
    · rw [k26, e26]; exact m3
    · rw [k26, e26]
    · rw [k27]; exact ej 27 (by decide)
    · rw [k30]; exact ej 30 (by decide)
    · rw [k32, j32, if_neg (by omega)]
  have givJ : ∀ v, (givF J v 26 0 = 1 ∧ givF J v 26 11 = ((k + 1 : Nat) : Int)) ∨ ∃ o' S' L', givF J v 26 0 = 0 ∧ MI H (t + 1) (givF J v) o' S' L' := fun v => giv J v rfl rfl b29 rfl rfl
  have hwy := wy_nat H p
  suffices key : ∀ P : Mem → Prop, (∀ X : Mem, ((X 26 0 = 1 ∧ X 26 11 = ((k + 1 : Nat) : Int)) ∨ ∃ o' S' L', X 26 0 = 0 ∧ MI H (t + 1) X o' S' L') → P X) → P (goG H k p (I 31 k) g J) from key (fun X => (X 26 0 = 1 ∧ X 26 11 = ((k + 1 : Nat) : Int)) ∨ ∃ o' S' L', X 26 0 = 0 ∧ MI H (t + 1) X o' S' L') (fun X hx => hx)
  intro P hP
  unfold goG
  split
  next ho =>
    have hpt : pts (lt H p) = 2 := by simp [pts, ho]
    split
    next g0 => exact hP _ (begJ _ _ (by omega) (kp_len hw a2 (by omega)))
    next g0 =>
    split
    next g1 =>
      have e33 : ∀ id, id ≠ 33 → upd2 J 33 k (J 26 1) id = J id := fun id hid => upd2_id hid
      exact hP _ (beg (upd2 J 33 k (J 26 1)) _ _ L (by omega) (kp_len hw a2 (by omega)) (by rw [e33 26 (by decide), e26]; exact h0) (by rw [e33 26 (by decide), e26]; exact m1) (by rw [e33 26 (by decide), e26]; exact m2) (by rw [e33 26 (by decide), e26]; exact m3) (by omega) (by rw [e33 26 (by decide), e26]; omega) (by rw [e33 27 (by decide)]; exact ej 27 (by decide)) (by rw [e33 29 (by decide)]; exact b29) (by rw [e33 30 (by decide)]; exact ej 30 (by decide)) (e33 32 (by decide)))
    next g1 => exact hP _ (givJ _)
  next =>
  split
  next ho =>
    have hpt : pts (lt H p) = 3 := by rw [ho]; rfl
    split
    next g0 => exact hP _ (begJ _ _ (by omega) (kp_len hw a2 (by omega)))
    next g0 =>
    split
    next g1 =>
      refine hP _ (begJ _ _ (by omega) ?_)
      split
      · exact kp_len hw a2 (by omega)
      · exact kp_len hw a2 (by omega)
    next g1 => exact hP _ (givJ _)
  next =>
  split
  next ho =>
    have hpt : pts (lt H p) = 2 := by rw [ho]; rfl
    split
    next g0 => exact hP _ (begJ _ _ (by omega) (kp_len hw a2 (by omega)))
    next g0 =>
    split
    next g1 => exact hP _ (begL _ _ _ _ _ (by omega) (kp_len hw a2 (by omega)))
    next g1 => exact hP _ (givJ _)
  next =>
  split
  next ho =>
    have hpt : pts (lt H p) = 2 := by rw [ho]; rfl
    split
    next g0 => exact hP _ (begL _ _ _ _ _ (by omega) (kp_len hw a2 (by omega)))
    next g0 => exact hP _ (givJ _)
  next =>
  split
  next ho =>
    have hpt : pts (lt H p) = 1 := by rw [ho]; rfl
    split
    next g0 => exact hP _ (begJ _ _ (by omega) (kp_len hw a2 (by omega)))
    next g0 =>
    split
    next g1 =>
      obtain ⟨-, t2, t3, -⟩ := tell_spec hH.1 hw a2 ho
      generalize hK : cntF (upd2 J 26 3 (J 26 3 + 1)) 1 (wy H p).toNat = K
      have ek : ∀ id, id ≠ 26 → id ≠ 28 → id ≠ 29 → K id = J id := fun id h1 h2 h3 => by rw [← hK, cntF_id h2 h3, upd2_id h1]
      have ek26 : ∀ r, r ≠ 3 → K 26 r = I 26 r := fun r hr => by rw [← hK, cntF_id (by decide) (by decide), upd2_at, if_neg (fun q => hr q.2), e26]
      have ek3 : K 26 3 = I 26 3 + 1 := by rw [← hK, cntF_id (by decide) (by decide), upd2_at, if_pos ⟨rfl, rfl⟩, e26]
      have ek29 : ∀ r, r < 3 → -((t : Int) + 1) ≤ K 29 r ∧ K 29 r ≤ (t : Int) + 1 := by
        rw [← hK]
        exact cntF_29 (by omega) (fun r hr => by rw [upd2_id (by decide), ej 29 (by decide)]; exact m11 r hr) _ hwy.2
      exact hP _ (beg (lnkF K _ _ _) _ _ (L + 1) (by omega) (kp_len hw t2 (by rw [t3]; decide)) (by rw [lnkF_26 (by decide), ek26 0 (by decide)]; exact h0) (by rw [lnkF_26 (by decide), ek26 11 (by decide)]; exact m1) (by rw [lnkF_26 (by decide), ek26 2 (by decide)]; exact m2) (by rw [lnkF_15, ek26 15 (by decide), m3]; omega) (by omega) (by rw [lnkF_26 (by decide), ek3]; omega) (by rw [lnkF_id (by decide) (by decide) (by decide) (by decide), ek 27 (by decide) (by decide) (by decide)]; exact ej 27 (by decide)) (by rw [lnkF_id (by decide) (by decide) (by decide) (by decide)]; exact ek29) (by rw [lnkF_id (by decide) (by decide) (by decide) (by decide), ek 30 (by decide) (by decide) (by decide)]; exact ej 30 (by decide)) (by rw [lnkF_id (by decide) (by decide) (by decide) (by decide)]; exact ek 32 (by decide) (by decide) (by decide)))
    next g1 =>
      exact hP _ (giv (cntF J (-1) (wy H p).toNat) _ (cntF_id (by decide) (by decide) _) (cntF_id (by decide) (by decide) _) (cntF_29 (by omega) (fun r hr => by rw [ej 29 (by decide)]; exact m11 r hr) _ hwy.2) (cntF_id (by decide) (by decide) _) (cntF_id (by decide) (by decide) _))
  next => exact hP _ (givJ _)
