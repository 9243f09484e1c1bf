/-! function, count. -/
noncomputable def cT (H : List Hd) (F : Int) : Nat → Nat
  | 0 => 0
  | n + 1 => cT H F n + if lt H n = 33 ∧ nm H n = F ∧ tl H n = 1 then 1 else 0
theorem cT_le (H : List Hd) (F : Int) : ∀ n, cT H F n ≤ n := by
  intro n
  induction n with
  | zero => exact Nat.le_refl _
  | succ n ih => unfold cT; split <;> omega
theorem dfN_cases (H : List Hd) (f : Nat) : ∀ n, dfN H f n = -9 ∨ (0 ≤ dfN H f n ∧ dfN H f n < (n : Int)) := by
  intro n
  induction n with
  | zero => exact Or.inl rfl
  | succ n ih =>
    unfold dfN
    split
    · exact Or.inr ⟨by omega, by omega⟩
    · rcases ih with h | h
      · exact Or.inl h
      · exact Or.inr ⟨h.1, by omega⟩
noncomputable def oFun (c w : Int) (H : List Hd) : Int := if ¬ (isFun c = true ∧ 0 ≤ w ∧ w ≤ 4) then -1 else if df H (c - 65).toNat < 0 then -9 else if w = 0 then df H (c - 65).toNat else if w = 1 then (cC H c 0 H.length : Int) else if w = 2 then (cT H c H.length : Int) else if w = 3 then rt H (c - 65).toNat else b2i (jmp (rt H (c - 65).toNat))
section Funs
variable {I : Mem} {S : Sta} {Q : Post}
theorem R_tailCalls {c : Int} (hG : Good S) (h : RelC I S) (hQ : Q (some (.inl (cT S.1.1 c S.1.1.length : Int))) I) : R 10 0 [(0, .inr (some 20)), (1, .inr (some 9)), (2, .inl c)] [] I Q := by
  have h60 := prog_60 hG.1
  have e9 : I 9 0 = (S.1.1.length : Int) := h.2.1.1.1
  refine t10_0 I _ ?_
  have loop : ∀ (d j : Nat), j + d = S.1.1.length → R 10 5 [(0, .inr (some 20)), (1, .inr (some 9)), (2, .inl c), (3, .inl (cT S.1.1 c j : Int)), (4, .inl (j : Int))] [] I Q := by
    intro d
    induction d with
    | zero =>
      intro j hj
      have : j = S.1.1.length := by omega
      subst this
      exact t10_5 I _ _ _ ⟨fun _ => hQ, fun z => absurd (by rw [e9]; omega) z⟩
    | succ d ih =>
      intro j hj
      have hr := h.rows hG (q := j) (by omega)
      have hle := cT_le S.1.1 c j
      have ec : cT S.1.1 c (j + 1) = cT S.1.1 c j + if lt S.1.1 j = 33 ∧ nm S.1.1 j = c ∧ tl S.1.1 j = 1 then 1 else 0 := rfl
      have same : ¬ (lt S.1.1 j = 33 ∧ nm S.1.1 j = c ∧ tl S.1.1 j = 1) → R 10 5 [(0, .inr (some 20)), (1, .inr (some 9)), (2, .inl c), (3, .inl (cT S.1.1 c j : Int)), (4, .inl (wrap ((j : Int) + 1)))] [] I Q := by
        intro z
        rw [if_neg z] at ec
        rw [wrap_succ (by omega)]
        have := ih (j + 1) (by omega)
        rw [ec] at this
        exact this
      refine t10_5 I _ _ _ ⟨fun z => absurd z (by rw [e9]; omega), fun _ => ?_⟩
      rw [hr.1, hr.2.1, hr.2.2.2.2.2]
      refine ⟨fun z => same (fun w => z w.1), fun z => ⟨fun z2 => same (fun w => z2 w.2.1), fun z2 => ⟨fun z3 => same (fun w => ?_), fun z3 => ?_⟩⟩⟩
      · rw [b2i_0] at z3; rw [w.2.2] at z3; simp at z3
      · have z3 : tl S.1.1 j = 1 := by simpa using nob2i.mp z3
        rw [if_pos ⟨by simpa using z, by simpa using z2, z3⟩] at ec
        rw [wrap_succ (by omega), wrap_succ (by omega)]
        have := ih (j + 1) (by omega)
        rw [ec] at this
        exact this
  exact loop S.1.1.length 0 (by omega)
theorem fun_idx {c : Int} (h : isFun c = true) : wrap (c - 65) = (((c - 65).toNat : Nat) : Int) ∧ (c - 65).toNat < 6 ∧ c = 65 + (((c - 65).toNat : Nat) : Int) := by
  have := fun_range h
  rw [wrap_of (by omega) (by omega)]
  omega
theorem C_function {c w : Int} (hG : Good S) (h : RelC I S) (hQ : Q (some (.inl (oFun c w S.1.1))) I) : R 85 0 [(0, .inr (some 0)), (1, .inl c), (2, .inl w)] [] I Q := by
  have h60 := prog_60 hG.1
  have hw := prog_wfa hG.1
  have hl := prog_pos hG.1
  unfold oFun at hQ
  refine t85_0 I _ _ ⟨fun z => ?_, fun z => ⟨fun z2 => ?_, fun z2 => ⟨fun z3 => ?_, fun z3 => ?_⟩⟩⟩
  · rw [b2i_0] at z
    rw [if_pos (by rw [z]; simp)] at hQ; exact hQ
  · rw [if_pos (by omega)] at hQ; exact hQ
  · have hf := nob2i.mp z
    obtain ⟨i1, i2, i3⟩ := fun_idx hf
    rw [if_neg (fun y => y ⟨hf, by omega, z3⟩)] at hQ
    have r24 : rd I 24 (((c - 65).toNat : Nat) : Int) = df S.1.1 (c - 65).toNat := by rw [rd_nat (by rw [sz24]; omega)]; exact (h.2.1.2.2.1 _ i2).1
    have r25 : rd I 25 (((c - 65).toNat : Nat) : Int) = rt S.1.1 (c - 65).toNat := by rw [rd_nat (by rw [sz25]; omega)]; exact (h.2.1.2.2.1 _ i2).2
    rw [i1, r24, r25]
    refine ⟨fun a => ?_, fun a => ?_⟩
    · rw [if_neg (by omega)] at hQ
      refine ⟨fun b => ?_, fun b => ⟨fun b2 => ?_, fun b2 => ⟨fun b3 => ?_, fun b3 => ⟨fun b4 => ?_, fun b4 => ⟨fun b5 => ?_, fun b5 => ?_⟩⟩⟩⟩⟩
      · rw [if_pos b] at hQ; exact hQ
      · rw [if_neg b, if_pos b2] at hQ
        refine R_calls (t := 9) (p := 0) (Or.inl rfl) h60 h.2.1.1 hl ⟨_, rfl, ?_⟩
        rw [sp_0 hw]; exact hQ
      · rw [if_neg b, if_neg b2, if_pos b3] at hQ
        exact R_tailCalls hG h ⟨_, rfl, hQ⟩
      · rw [if_neg b, if_neg b2, if_neg b3, if_pos b4] at hQ; exact hQ
      · rw [if_neg b, if_neg b2, if_neg b3, if_neg b4, b5] at hQ; exact hQ
      · rw [if_neg b, if_neg b2, if_neg b3, if_neg b4, b2i_t (nob2i.mp b5)] at hQ; exact hQ
    · rw [if_pos (by omega)] at hQ; exact hQ
  · rw [if_pos (by omega)] at hQ; exact hQ
theorem R_teller {c : Int} (hG : Good S) (h : MAna I S.1.1) (hf : isFun c = true) (hQ : Q (some (.inl (df S.1.1 (c - 65).toNat))) I) : R 131 0 [(0, .inr (some 77)), (1, .inl c)] [] I Q := by
  have h60 := prog_60 hG.1
  obtain ⟨i1, i2, i3⟩ := fun_idx hf
  have e20 : I 77 20 = (S.1.1.length : Int) := h.1.1.2.1
  refine t131_0 I _ ?_
  have loop : ∀ (d j : Nat), j + d = S.1.1.length → R 131 5 [(0, .inr (some 77)), (1, .inl c), (2, .inl (dfN S.1.1 (c - 65).toNat j)), (3, .inl (j : Int))] [] I Q := by
    intro d
    induction d with
    | zero =>
      intro j hj
      have : j = S.1.1.length := by omega
      subst this
      exact t131_5 I _ _ _ ⟨fun _ => hQ, fun z => absurd (by rw [e20]; omega) z⟩
    | succ d ih =>
      intro j hj
      obtain ⟨l1, l2⟩ := h.let_ hG.1 (p := j) (by omega)
      have ec : dfN S.1.1 (c - 65).toNat (j + 1) = if lt S.1.1 j = 64 ∧ nm S.1.1 j = 65 + (((c - 65).toNat : Nat) : Int) then (j : Int) else dfN S.1.1 (c - 65).toNat j := rfl
      rw [← i3] at ec
      have next := ih (j + 1) (by omega)
      refine t131_5 I _ _ _ ⟨fun z => absurd z (by rw [e20]; omega), fun _ => ⟨l1, ?_⟩⟩
      rw [l2, wrap_succ (by omega)]
      refine ⟨fun z => ?_, fun z => ?_⟩
      · rw [if_neg (fun w => z w.1)] at ec
        rw [ec] at next
        exact next
      · have z : lt S.1.1 j = 64 := by simpa using z
        obtain ⟨f1, f2⟩ := h.fun_ hG.1 (p := j) (by omega) (hds_kind.1.mpr (Or.inl z))
        rw [f2]
        refine ⟨f1, fun z2 => ?_, fun z2 => ?_⟩
        · rw [if_neg (fun w => z2 w.2)] at ec
          rw [ec] at next
          exact next
        · rw [if_pos ⟨z, by simpa using z2⟩] at ec
          rw [ec] at next
          exact next
  exact loop S.1.1.length 0 (by omega)
theorem M_function {c w : Int} (hG : Good S) (h : RelM I S) (hQ : ∀ I', RelM I' S → FrLo I I' → Q (some (.inl (oFun c w S.1.1))) I') : R 156 0 [(0, .inr (some 77)), (1, .inl c), (2, .inl w)] [] I Q := by
  have h60 := prog_60 hG.1
  have hw := prog_wfa hG.1
  unfold oFun at hQ
  refine t156_0 I _ _ ?_
  dsimp only
  have h0 := h.thr (v := 0)
  have f0 := thr_lo (I := I) (v := 0)
  generalize upd2 I 77 0 0 = K at h0 f0 ⊢
  have hQ := hQ K h0 f0
  have e20 : K 77 20 = (S.1.1.length : Int) := h0.1.1.1.2.1
  refine ⟨fun z => ?_, fun z => ⟨fun z2 => ?_, fun z2 => ?_⟩⟩
  · rw [b2i_0] at z
    rw [if_pos (by rw [z]; simp)] at hQ; exact hQ
  · have hf := nob2i.mp z
    have z2 := inI_iff.mp (nob2i.mp z2)
    obtain ⟨i1, i2, i3⟩ := fun_idx hf
    rw [if_neg (fun y => y ⟨hf, z2⟩)] at hQ
    refine R_teller hG h0.1 hf ⟨_, rfl, ?_⟩
    have hdc := dfN_cases S.1.1 (c - 65).toNat S.1.1.length
    have hdf : dfN S.1.1 (c - 65).toNat S.1.1.length = df S.1.1 (c - 65).toNat := rfl
    rw [hdf] at hdc
    refine ⟨fun a => ?_, fun a => ?_⟩
    · rw [if_pos (by omega)] at hQ
      rw [a]; exact hQ
    · rw [if_neg (by omega)] at hQ
      refine ⟨fun b => ⟨fun b2 => ?_, fun b2 => ⟨fun b3 => ?_, fun b3 => ?_⟩⟩, fun b => ?_⟩
      · rw [if_neg b] at hQ
        -- the count
        have loop : ∀ (cnt : Nat → Nat), (∀ n, cnt n ≤ n) → cnt 0 = 0 → (∀ j, j < S.1.1.length → cnt (j + 1) = cnt j + if lt S.1.1 j = 33 ∧ nm S.1.1 j = c ∧ (w = 1 ∨ tl S.1.1 j = 1) then 1 else 0) → Q (some (.inl (cnt S.1.1.length : Int))) K →
            ∀ (d j : Nat), j + d = S.1.1.length → R 156 83 [(0, .inr (some 77)), (1, .inl c), (2, .inl w), (4, .inl (cnt j : Int)), (5, .inl (j : Int))] [] K Q := by
          intro cnt hle _ hstep hq d
          induction d with
          | zero =>
            intro j hj
            have : j = S.1.1.length := by omega
            subst this
            exact t156_83 K _ _ _ _ ⟨fun _ => hq, fun z => absurd (by rw [e20]; omega) z⟩
          | succ d ih =>
            intro j hj
            obtain ⟨l1, l2⟩ := h0.1.let_ hG.1 (p := j) (by omega)
            have hlj := hle j
            have ec := hstep j (by omega)
            have next := ih (j + 1) (by omega)
            have same : ¬ (lt S.1.1 j = 33 ∧ nm S.1.1 j = c ∧ (w = 1 ∨ tl S.1.1 j = 1)) → R 156 83 [(0, .inr (some 77)), (1, .inl c), (2, .inl w), (4, .inl (wrap ((cnt j : Int) + 0))), (5, .inl (wrap ((j : Int) + 1)))] [] K Q := by
              intro y
              rw [if_neg y] at ec
              rw [ec] at next
              rw [wrap_of (x := (cnt j : Int) + 0) (by omega) (by omega), wrap_succ (by omega), show (cnt j : Int) + 0 = ((cnt j + 0 : Nat) : Int) by omega]
              exact next
            have more : (lt S.1.1 j = 33 ∧ nm S.1.1 j = c ∧ (w = 1 ∨ tl S.1.1 j = 1)) → R 156 83 [(0, .inr (some 77)), (1, .inl c), (2, .inl w), (4, .inl (wrap ((cnt j : Int) + 1))), (5, .inl (wrap ((j : Int) + 1)))] [] K Q := by
              intro y
              rw [if_pos y] at ec
              rw [ec] at next
              rw [wrap_succ (by omega), wrap_succ (by omega)]
              exact next
            refine t156_83 K _ _ _ _ ⟨fun z => absurd z (by rw [e20]; omega), fun _ => ⟨l1, ?_⟩⟩
            rw [l2]
            refine ⟨fun y => same (fun x => ?_), fun y => ?_⟩
            · rw [b2i_0, x.1] at y; simp at y
            · have y : lt S.1.1 j = 33 := by simpa using nob2i.mp y
              obtain ⟨g1, g2⟩ := h0.1.fun_ hG.1 (p := j) (by omega) (hds_kind.1.mpr (Or.inr (Or.inr y)))
              rw [g2, toNat_c, (h0.1.2.1 j (by omega)).1]
              have h01 := tl_01 hw h0.1.2.2.2 j (by omega)
              refine ⟨g1, fun y2 => same (fun x => y2 x.2.1), fun y2 => ⟨fun y3 => more ⟨y, by simpa using y2, Or.inl y3⟩, fun y3 => ⟨inb_nat (by omega), fun y4 => same (fun x => ?_), fun y4 => more ⟨y, by simpa using y2, Or.inr (by omega)⟩⟩⟩⟩
              rcases x.2.2 with x | x
              · exact y3 x
              · omega
        by_cases b3 : w = 1
        · rw [if_pos b3] at hQ
          refine loop (cC S.1.1 c 0) (cC_le S.1.1 c 0) rfl (fun j hj => ?_) hQ S.1.1.length 0 (by omega)
          have ec : cC S.1.1 c 0 (j + 1) = cC S.1.1 c 0 j + if lt S.1.1 (0 + j) = 33 ∧ nm S.1.1 (0 + j) = c then 1 else 0 := rfl
          rw [ec, Nat.zero_add]
          simp [b3]
        · rw [if_neg b3, if_pos (by omega)] at hQ
          refine loop (cT S.1.1 c) (cT_le S.1.1 c) rfl (fun j hj => ?_) hQ S.1.1.length 0 (by omega)
          have ec : cT S.1.1 c (j + 1) = cT S.1.1 c j + if lt S.1.1 j = 33 ∧ nm S.1.1 j = c ∧ tl S.1.1 j = 1 then 1 else 0 := rfl
          rw [ec]
          simp [b3]
      · rw [if_neg b, if_neg (by omega), if_neg (by omega), if_neg b3] at hQ
        rw [i1, toNat_c, h0.1.2.2.1 _ i2, mjmp_rt]
        refine ⟨inb_nat i2, fun b4 => ?_, fun b4 => ?_⟩
        · rw [b4] at hQ; exact hQ
        · rw [b2i_t (nob2i.mp b4)] at hQ; exact hQ
      · rw [if_neg b, if_neg (by omega), if_neg (by omega), if_pos (by simpa using b3)] at hQ
        rw [i1, toNat_c, h0.1.2.2.1 _ i2]
        exact ⟨inb_nat i2, hQ⟩
      · rw [if_pos (by simpa using b)] at hQ; exact hQ
  · rw [if_pos (fun y => z2 (nob2i.mpr (inI_iff.mpr y.2)))] at hQ; exact hQ
end Funs
