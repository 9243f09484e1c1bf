/-! Flow.trace. -/
theorem tree_rd {I : Mem} {t : Nat} {H : List Hd} (ht : t = 9 ∨ t = 40) (h60 : H.length ≤ 60) (k p : Nat) (h1 : 1 ≤ k) (h2 : k ≤ 10) (hp : p < H.length) : rd I (t + k) (p : Int) = I (t + k) p := rd_nat (by rw [szT ht h1 h2]; omega)
theorem sz21 : sz 21 = 60 := rfl
theorem sz22 : sz 22 = 60 := rfl
theorem sz23 : sz 23 = 60 := rfl
theorem sz24 : sz 24 = 6 := rfl
theorem sz25 : sz 25 = 6 := rfl
theorem R_place0 {I : Mem} {Q : Post} (h : Q none (upd2 (upd2 I 21 0 1) 22 0 0)) : R 1 0 [(0, .inr (some 20)), (1, .inr (some 9)), (2, .inl 0)] [] I Q := by
  refine t1_0 I 0 ⟨fun h0 => absurd rfl h0, fun _ => ?_⟩
  dsimp only
  have e1 : wr I 21 0 1 = upd2 I 21 0 1 := wr_nat (i := 0) (by rw [sz21]; omega)
  have e2 : ∀ J : Mem, wr J 22 0 0 = upd2 J 22 0 0 := fun J => wr_nat (i := 0) (by rw [sz22]; omega)
  rw [e1, e2]
  exact h
theorem R_placeK {H : List Hd} (h60 : H.length ≤ 60) (hw : wfa H) {I : Mem} (hT : TreeOK I 9 H) {a j : Nat} (ha : a < H.length) (hj : j < pts (lt H a)) {Q : Post}
    (h : Q none (upd2 (upd2 I 21 (kp H a j) (if lt H a = 64 ∧ j = 0 then 1 else if (lt H a = 63 ∨ lt H a = 58 ∨ lt H a = 64) ∧ j ≠ 0 then I 21 a else 0)) 22 (kp H a j) (if lt H a = 64 ∧ j = 0 then nm H a else I 22 a))) :
    R 1 0 [(0, .inr (some 20)), (1, .inr (some 9)), (2, .inl (kp H a j : Int))] [] I Q := by
  have hk := kp_len hw ha hj
  have hg := kp_gt (H := H) (p := a) (j := j)
  obtain ⟨p1, p2, -⟩ := hT.2.2.1.2 a j ha hj hk
  have hl := (hT.2.1 a ha).1
  have hnm := (hT.2.1 a ha).2.1
  have e17 : rd I 17 (kp H a j : Int) = (j : Int) := by rw [tree_rd (t := 9) (H := H) (Or.inl rfl) h60 8 _ (by omega) (by omega) hk]; exact p2
  have e16 : rd I 16 (kp H a j : Int) = (a : Int) := by rw [tree_rd (t := 9) (H := H) (Or.inl rfl) h60 7 _ (by omega) (by omega) hk]; exact p1
  have e10 : rd I 10 (a : Int) = lt H a := by rw [tree_rd (t := 9) (H := H) (Or.inl rfl) h60 1 _ (by omega) (by omega) ha]; exact hl
  have w21 : ∀ v, wr I 21 (kp H a j : Int) v = upd2 I 21 (kp H a j) v := fun v => wr_nat (by rw [sz21]; omega)
  have w22 : ∀ (J : Mem) v, wr J 22 (kp H a j : Int) v = upd2 J 22 (kp H a j) v := fun J v => wr_nat (by rw [sz22]; omega)
  have r11 : ∀ v, rd (upd2 I 21 (kp H a j) v) 11 (a : Int) = nm H a := fun v => by
    rw [rd_upd (by omega), tree_rd (t := 9) (H := H) (Or.inl rfl) h60 2 _ (by omega) (by omega) ha]; exact hnm
  have r22 : ∀ v, rd (upd2 I 21 (kp H a j) v) 22 (a : Int) = I 22 a := fun v => by
    rw [rd_upd (by omega), rd_nat (by rw [sz22]; omega)]
  have r21 : rd I 21 (a : Int) = I 21 a := rd_nat (by rw [sz21]; omega)
  have fin : ∀ v, v = (if lt H a = 64 ∧ j = 0 then 1 else if (lt H a = 63 ∨ lt H a = 58 ∨ lt H a = 64) ∧ j ≠ 0 then I 21 a else 0) → ¬ (lt H a = 64 ∧ j = 0) → R 1 153 [(0, .inr (some 20)), (2, .inl (kp H a j : Int)), (3, .inl (a : Int))] [.inl v, .inl (kp H a j : Int), .inr (some 21)] I Q := by
    intro v hv hn
    refine t1_153 I _ _ _ _ ?_
    dsimp only
    rw [w21, w22, r22, hv]
    rw [if_neg hn] at h ⊢
    rw [if_neg hn] at h
    exact h
  have hand : ∀ y : Int, (y = 0 ↔ ¬ ((lt H a = 63 ∨ lt H a = 58 ∨ lt H a = 64) ∧ j ≠ 0)) → ¬ (lt H a = 64 ∧ j = 0) → R 1 129 [(0, .inr (some 20)), (2, .inl (kp H a j : Int)), (3, .inl (a : Int))] [.inl y] I Q := by
    intro y hy hn
    refine t1_129 I _ _ _ ⟨fun h0 => fin 0 ?_ hn, fun h0 => fin _ ?_ hn⟩
    · rw [if_neg hn, if_neg (hy.mp h0)]
    · rw [r21, if_neg hn, if_pos (Classical.byContradiction (fun q => h0 (hy.mpr q)))]
  have main : ∀ y : Int, (y = 0 ↔ j ≠ 0) → R 1 58 [(0, .inr (some 20)), (1, .inr (some 9)), (2, .inl (kp H a j : Int)), (3, .inl (a : Int)), (4, .inl (lt H a))] [.inl y] I Q := by
    intro y hy
    refine t1_58 I _ _ _ _ ⟨fun h64 => ?_, fun h64 => ?_⟩
    · have hn : ¬ (lt H a = 64 ∧ j = 0) := fun q => h64 q.1
      refine ⟨fun h63 => ⟨fun y0 => hand 0 ?_ hn, fun y0 => hand 1 ?_ hn⟩, fun h63 => ⟨fun h58 => ⟨fun y0 => hand 0 ?_ hn, fun y0 => hand 1 ?_ hn⟩, fun h58 => ⟨fun _ => hand 0 ?_ hn, fun q => absurd h64 q⟩⟩⟩
      · constructor
        · intro _ q; exact y0 (hy.mpr q.2)
        · intro _; rfl
      · constructor
        · intro q; omega
        · intro q; exact absurd ⟨Or.inl h63, hy.mp (by simpa using y0)⟩ q
      · constructor
        · intro _ q; exact y0 (hy.mpr q.2)
        · intro _; rfl
      · constructor
        · intro q; omega
        · intro q; exact absurd ⟨Or.inr (Or.inl h58), hy.mp (by simpa using y0)⟩ q
      · constructor
        · intro _ q; omega
        · intro _; rfl
    · have h64 : lt H a = 64 := by simpa using h64
      refine ⟨fun y0 => ?_, fun y0 => ?_⟩
      · have hn : ¬ (lt H a = 64 ∧ j = 0) := fun q => (hy.mp y0) q.2
        refine ⟨fun h63 => absurd h63 (by omega), fun _ => ⟨fun h58 => absurd h58 (by omega), fun _ => ⟨fun q => absurd h64 q, fun _ => ⟨fun q => absurd y0 q, fun _ => hand 1 ?_ hn⟩⟩⟩⟩
        constructor
        · intro q; omega
        · intro q; exact absurd ⟨Or.inr (Or.inr h64), hy.mp y0⟩ q
      · have hj0 : j = 0 := by
          rcases Nat.eq_zero_or_pos j with q | q
          · exact q
          · exact absurd (hy.mpr (by omega)) y0
        dsimp only
        rw [w21, w22, r11]
        rw [if_pos ⟨h64, hj0⟩, if_pos ⟨h64, hj0⟩] at h
        exact h
  refine t1_0 I _ ⟨fun _ => ?_, fun q => absurd (by simpa using q) (show ¬ ((kp H a j : Int) = 0) by omega)⟩
  rw [e17, e16, e10]
  refine ⟨fun q => main 0 ?_, fun q => main 1 ?_⟩
  · constructor
    · intro _; omega
    · intro _; rfl
  · constructor
    · intro q2; omega
    · intro q2; exact absurd (show (j : Int) = 0 by simpa using q) (by omega)
def Fr25 (I0 I : Mem) : Prop := ∀ id, id ≠ 25 → I id = I0 id
/-- consider -/
theorem R_consider {H : List Hd} (h60 : H.length ≤ 60) (he : ex kE H) {I : Mem} {b : Nat → Int} (hb : ∀ f, f < 6 → I 25 f = b f) (ht : ∀ p, p < H.length → I 21 p = tl H p ∧ I 22 p = bd H p) (hTR : TailRec H (tl H) (bd H)) (hw : wfa H) {p : Nat} (hp : p < H.length) (hl : lt H p = 33) {Q : Post}
    (h1 : ¬ chg H b p → Q (some (.inl 0)) I) (h2 : ∀ I', chg H b p → Fr25 I I' → (∀ f, f < 6 → I' 25 f = stepR H b p f) → Q (some (.inl 1)) I') :
    R 3 0 [(0, .inr (some 20)), (1, .inl (p : Int)), (2, .inl (wrap (nm H p - 65)))] [] I Q := by
  have hfr := fun_range (call_fun he hp hl).1
  have hfn : wrap (nm H p - 65) = (fnr H p : Int) := by unfold fnr; rw [wrap_of (by omega) (by omega)]; omega
  have hf6 := fnr_lt he hp hl
  rw [hfn]
  have r21 : rd I 21 (p : Int) = tl H p := by rw [rd_nat (by rw [sz21]; omega)]; exact (ht p hp).1
  have r22 : rd I 22 (p : Int) = bd H p := by rw [rd_nat (by rw [sz22]; omega)]; exact (ht p hp).2
  have r25 : rd I 25 (fnr H p : Int) = b (fnr H p) := by rw [rd_nat (by rw [sz25]; omega)]; exact hb _ hf6
  have hg : R 4 0 [(0, .inr (some 20)), (1, .inl (p : Int))] [] I (fun r I' => r = some (.inl (giv H b p)) ∧ I' = I) := by
    refine t4_0 I _ ?_
    rw [r21, r22]
    unfold giv
    refine ⟨fun q1 => ⟨fun q2 => ⟨?_, rfl⟩, fun q2 => ⟨?_, rfl⟩⟩, fun q1 => ⟨?_, rfl⟩⟩
    · rw [if_neg q1, if_neg q2]
      have hbr := fun_range ((bd_fun he hw hTR p hp).resolve_left q2)
      have e : wrap (bd H p - 65) = ((bd H p - 65).toNat : Int) := by rw [wrap_of (by omega) (by omega)]; omega
      rw [e, rd_nat (by rw [sz25]; omega), hb _ (by omega)]
    · rw [if_neg q1, if_pos (by simpa using q2)]
    · rw [if_pos (by simpa using q1)]
  refine t3_0 I _ _ (hg.mono (fun r I' hr => ?_))
  obtain ⟨rfl, rfl⟩ := hr
  refine ⟨_, rfl, ?_⟩
  rw [r25]
  refine ⟨fun q1 => ⟨Or.inl rfl, h1 (fun q => q.2 (Or.inl q1))⟩, fun q1 => ⟨fun q2 => ⟨Or.inl rfl, h1 (fun q => q.2 (Or.inr (Or.inl q2)))⟩, fun q2 => ⟨fun q3 => ?_, fun q3 => ⟨Or.inl rfl, h1 (fun q => q.2 (Or.inr (Or.inr (by simpa using q3))))⟩⟩⟩⟩
  have hc : chg H b p := ⟨hl, fun q => q.elim q1 (fun q => q.elim q2 q3)⟩
  have w25 : ∀ v, wr I' 25 (fnr H p : Int) v = upd2 I' 25 (fnr H p) v := fun v => wr_nat (by rw [sz25]; omega)
  refine ⟨fun q4 => ?_, fun q4 => ?_⟩
  · dsimp only
    rw [w25]
    refine ⟨Or.inr rfl, h2 _ hc (fun id hid => upd2_id hid) (fun f hf => ?_)⟩
    have hv : (if b (fnr H p) = -11 then giv H b p else -12) = -12 := if_neg q4
    rw [stepR_pos hc, hv]
    unfold newb upd2
    by_cases hff : f = fnr H p
    · simp [hff]
    · simp only [hff, and_false, if_false]
      exact hb f hf
  · dsimp only
    rw [w25]
    refine ⟨Or.inr rfl, h2 _ hc (fun id hid => upd2_id hid) (fun f hf => ?_)⟩
    have hv : (if b (fnr H p) = -11 then giv H b p else -12) = giv H b p := if_pos (by simpa using q4)
    rw [stepR_pos hc, hv]
    unfold newb upd2
    by_cases hff : f = fnr H p
    · simp [hff]
    · simp only [hff, and_false, if_false]
      exact hb f hf
