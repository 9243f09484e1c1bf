/-! count, comes, forget. -/
def sF (H : List Hd) (g : Nat → Nat) (n : Nat) : Nat → Nat
  | 0 => 0
  | f + 1 => sF H g n f + if 0 ≤ dfN H f n then g f else 0
def sP (H : List Hd) (g : Nat → Nat) : Nat → Nat
  | 0 => 0
  | n + 1 => sP H g n + if lt H n = 64 then g (fnr H n) else 0
theorem dfN_is {H : List Hd} {f : Nat} : ∀ n, 0 ≤ dfN H f n → ∃ a, a < n ∧ lt H a = 64 ∧ nm H a = 65 + (f : Int) := by
  intro n
  induction n with
  | zero => intro h; exact absurd h (by show ¬ (0 : Int) ≤ -9; decide)
  | succ n ih =>
    intro h
    unfold dfN at h
    split at h
    next hc => exact ⟨n, by omega, hc⟩
    next =>
      obtain ⟨a, a1, a2⟩ := ih h
      exact ⟨a, by omega, a2⟩
theorem sF_eq {H : List Hd} (hH : prog H) (g : Nat → Nat) : ∀ n, n ≤ H.length → sP H g n = sF H g n 6 := by
  intro n
  induction n with
  | zero =>
    intro _
    have : ∀ k, sF H g 0 k = 0 := by
      intro k
      induction k with
      | zero => rfl
      | succ k ih => unfold sF; rw [ih, if_neg (by show ¬ (0 : Int) ≤ -9; decide)]
    rw [this]; rfl
  | succ n ih =>
    intro hn
    have ihn := ih (by omega)
    unfold sP
    rw [ihn]
    by_cases hl : lt H n = 64
    · rw [if_pos hl]
      have hfr := fun_range (def_fun hH.1 (by omega) hl).1
      have hf6 : fnr H n < 6 := by unfold fnr; omega
      have hnm : nm H n = 65 + (fnr H n : Int) := by unfold fnr; omega
      have hno : ¬ 0 ≤ dfN H (fnr H n) n := by
        intro z
        obtain ⟨a, a1, a2, a3⟩ := dfN_is n z
        have := def_uniq hH (by omega) (by omega) a2 hl (by rw [a3, hnm])
        omega
      have key : ∀ k, sF H g (n + 1) k = sF H g n k + if fnr H n < k then g (fnr H n) else 0 := by
        intro k
        induction k with
        | zero => rfl
        | succ k ihk =>
          have ed : dfN H k (n + 1) = if lt H n = 64 ∧ nm H n = 65 + (k : Int) then (n : Int) else dfN H k n := rfl
          have es : sF H g (n + 1) (k + 1) = sF H g (n + 1) k + if 0 ≤ dfN H k (n + 1) then g k else 0 := rfl
          have es2 : sF H g n (k + 1) = sF H g n k + if 0 ≤ dfN H k n then g k else 0 := rfl
          rw [es, es2, ihk]
          by_cases hk : k = fnr H n
          · subst hk
            rw [if_pos ⟨hl, hnm⟩] at ed
            rw [ed, if_neg hno, if_neg (Nat.lt_irrefl _), if_pos (Nat.lt_succ_self _), if_pos (show (0 : Int) ≤ (n : Int) by omega)]
          · rw [if_neg (fun z => hk (by omega))] at ed
            rw [ed]
            by_cases hk2 : fnr H n < k
            · rw [if_pos hk2, if_pos (show fnr H n < k + 1 by omega)]; omega
            · rw [if_neg hk2, if_neg (show ¬ fnr H n < k + 1 by omega)]; omega
      rw [key 6, if_pos hf6]
    · rw [if_neg hl]
      have key : ∀ k, sF H g (n + 1) k = sF H g n k := by
        intro k
        induction k with
        | zero => rfl
        | succ k ihk =>
          have ed : dfN H k (n + 1) = if lt H n = 64 ∧ nm H n = 65 + (k : Int) then (n : Int) else dfN H k n := rfl
          have es : sF H g (n + 1) (k + 1) = sF H g (n + 1) k + if 0 ≤ dfN H k (n + 1) then g k else 0 := rfl
          have es2 : sF H g n (k + 1) = sF H g n k + if 0 ≤ dfN H k n then g k else 0 := rfl
          rw [if_neg (fun z : lt H n = 64 ∧ nm H n = 65 + (k : Int) => hl z.1)] at ed
          rw [es, es2, ihk, ed]
      rw [key 6, Nat.add_zero]
theorem sF_le (H : List Hd) (g : Nat → Nat) (n : Nat) (hg : ∀ f, g f ≤ 1) : ∀ f, sF H g n f ≤ f := by
  intro f
  induction f with
  | zero => exact Nat.le_refl _
  | succ f ih => unfold sF; have := hg f; split <;> omega
theorem sP_le (H : List Hd) (g : Nat → Nat) (hg : ∀ f, g f ≤ 1) : ∀ n, sP H g n ≤ n := by
  intro n
  induction n with
  | zero => exact Nat.le_refl _
  | succ n ih => unfold sP; have := hg (fnr H n); split <;> omega
noncomputable def gJ (H : List Hd) (f : Nat) : Nat := if jmp (rt H f) = true then 1 else 0
theorem gJ_le (H : List Hd) (f : Nat) : gJ H f ≤ 1 := by unfold gJ; split <;> omega
noncomputable def oCount (w : Int) (S : Sta) : Int := if w = 0 then (S.1.1.length : Int) else if w = 1 then (sP S.1.1 (fun _ => 1) S.1.1.length : Int) else if w = 2 then (sP S.1.1 (gJ S.1.1) S.1.1.length : Int) else if w = 3 then (S.2.2.2.2.1.1 : Int) else if w = 4 then (S.2.2.2.1.length : Int) else if w = 5 then (S.2.1.1 : Int) else -1
section Count
variable {I : Mem} {S : Sta} {Q : Post}
theorem R_functions (hG : Good S) (h : RelC I S) (hQ : Q (some (.inl (sP S.1.1 (fun _ => 1) S.1.1.length : Int))) I) : R 11 0 [(0, .inr (some 20))] [] I Q := by
  rw [sF_eq hG.1 _ _ (Nat.le_refl _)] at hQ
  refine t11_0 I ?_
  have loop : ∀ (d j : Nat), j + d = 6 → R 11 4 [(0, .inr (some 20)), (1, .inl (sF S.1.1 (fun _ => 1) S.1.1.length j : Int)), (2, .inl (j : Int))] [] I Q := by
    intro d
    induction d with
    | zero =>
      intro j hj
      have : j = 6 := by omega
      subst this
      exact t11_4 I _ _ ⟨fun _ => hQ, fun z => absurd (by decide) z⟩
    | succ d ih =>
      intro j hj
      have next := ih (j + 1) (by omega)
      have hle := sF_le S.1.1 (fun _ => 1) S.1.1.length (fun _ => Nat.le_refl _) j
      have r24 : rd I 24 (j : Int) = dfN S.1.1 j S.1.1.length := by rw [rd_nat (by rw [sz24]; omega)]; exact (h.2.1.2.2.1 _ (by omega)).1
      have ec : sF S.1.1 (fun _ => 1) S.1.1.length (j + 1) = sF S.1.1 (fun _ => 1) S.1.1.length j + if 0 ≤ dfN S.1.1 j S.1.1.length then 1 else 0 := rfl
      rw [ec] at next
      refine t11_4 I _ _ ⟨fun z => absurd z (by omega), fun _ => ?_⟩
      rw [r24]
      refine ⟨fun z => ?_, fun z => ?_⟩
      · rw [if_neg (by omega)] at next
        rw [wrap_succ (by omega)]
        exact next
      · rw [if_pos (by omega)] at next
        rw [wrap_succ (by omega), wrap_succ (by omega)]
        exact next
  exact loop 6 0 rfl
theorem R_jumps (hG : Good S) (h : RelC I S) (hQ : Q (some (.inl (sP S.1.1 (gJ S.1.1) S.1.1.length : Int))) I) : R 12 0 [(0, .inr (some 20))] [] I Q := by
  rw [sF_eq hG.1 _ _ (Nat.le_refl _)] at hQ
  refine t12_0 I ?_
  have loop : ∀ (d j : Nat), j + d = 6 → R 12 4 [(0, .inr (some 20)), (1, .inl (sF S.1.1 (gJ S.1.1) S.1.1.length j : Int)), (2, .inl (j : Int))] [] I Q := by
    intro d
    induction d with
    | zero =>
      intro j hj
      have : j = 6 := by omega
      subst this
      exact t12_4 I _ _ ⟨fun _ => hQ, fun z => absurd (by decide) z⟩
    | succ d ih =>
      intro j hj
      have next := ih (j + 1) (by omega)
      have hle := sF_le S.1.1 (gJ S.1.1) S.1.1.length (gJ_le S.1.1) j
      have r24 : rd I 24 (j : Int) = dfN S.1.1 j S.1.1.length := by rw [rd_nat (by rw [sz24]; omega)]; exact (h.2.1.2.2.1 _ (by omega)).1
      have r25 : rd I 25 (j : Int) = rt S.1.1 j := by rw [rd_nat (by rw [sz25]; omega)]; exact (h.2.1.2.2.1 _ (by omega)).2
      have ew : wrap (wrap (65 + (j : Int)) - 65) = (j : Int) := by rw [wrap_of (x := 65 + (j : Int)) (by omega) (by omega), wrap_of (by omega) (by omega)]; omega
      have ec : sF S.1.1 (gJ S.1.1) S.1.1.length (j + 1) = sF S.1.1 (gJ S.1.1) S.1.1.length j + if 0 ≤ dfN S.1.1 j S.1.1.length then gJ S.1.1 j else 0 := rfl
      rw [ec] at next
      unfold gJ at next
      refine t12_4 I _ _ ⟨fun z => absurd z (by omega), fun _ => ?_⟩
      rw [ew, r24, r25, b2i_0]
      refine ⟨fun z => ?_, fun z => ⟨fun z2 => ?_, fun z2 => ?_⟩⟩
      · rw [if_neg (by omega)] at next
        rw [wrap_succ (by omega)]
        exact next
      · rw [if_pos (by omega), if_neg (by rw [z2]; decide)] at next
        rw [wrap_succ (by omega)]
        exact next
      · rw [if_pos (by omega), if_pos (by simpa using z2)] at next
        rw [wrap_succ (n := j) (by omega)]
        have hle' : sF S.1.1 (fun f => if jmp (rt S.1.1 f) = true then 1 else 0) S.1.1.length j ≤ j := hle
        have e : (gJ S.1.1) = (fun f => if jmp (rt S.1.1 f) = true then 1 else 0) := rfl
        rw [e, wrap_succ (by omega)]
        exact next
  exact loop 6 0 rfl
theorem C_count {w : Int} (hG : Good S) (h : RelC I S) (hQ : Q (some (.inl (oCount w S))) I) : R 99 0 [(0, .inr (some 0)), (1, .inl w)] [] I Q := by
  unfold oCount at hQ
  refine t99_0 I _ ?_
  rw [show I 9 0 = (S.1.1.length : Int) from h.2.1.1.1, h.2.2.2.2.2.1.1, h.2.2.2.2.1.1, h.2.2.1.2.1]
  refine ⟨fun a => ?_, fun a => ⟨fun b => ?_, fun b => ⟨fun c => ?_, fun c => ⟨fun d => ?_, fun d => ⟨fun e => ?_, fun e => ⟨fun f => ?_, fun f => ?_⟩⟩⟩⟩⟩⟩
  · rw [if_pos a] at hQ; exact hQ
  · rw [if_neg a, if_pos b] at hQ; exact R_functions hG h ⟨_, rfl, hQ⟩
  · rw [if_neg a, if_neg b, if_pos c] at hQ; exact R_jumps hG h ⟨_, rfl, hQ⟩
  · rw [if_neg a, if_neg b, if_neg c, if_pos d] at hQ; exact hQ
  · rw [if_neg a, if_neg b, if_neg c, if_neg d, if_pos e] at hQ; exact hQ
  · rw [if_neg a, if_neg b, if_neg c, if_neg d, if_neg e, if_pos f] at hQ; exact hQ
  · rw [if_neg a, if_neg b, if_neg c, if_neg d, if_neg e, if_neg f] at hQ; exact hQ
theorem M_count {w : Int} (hG : Good S) (h : RelM I S) (hQ : ∀ I', RelM I' S → FrLo I I' → Q (some (.inl (oCount w S))) I') : R 180 0 [(0, .inr (some 77)), (1, .inl w)] [] I Q := by
  have h60 := prog_60 hG.1
  unfold oCount at hQ
  refine t180_0 I _ ?_
  dsimp only
  have h0 := h.thr (v := 0)
  have f0 := thr_lo (I := I) (v := 0)
  generalize upd2 I 77 0 0 = K at h0 f0 ⊢
  have hQ := hQ K h0 f0
  have e20 : K 77 20 = (S.1.1.length : Int) := h0.1.1.1.2.1
  refine ⟨fun z => ?_, fun z => ?_⟩
  · have z := inI_iff.mp (nob2i.mp z)
    have loop : ∀ (d j : Nat), j + d = S.1.1.length → R 180 23 [(0, .inr (some 77)), (1, .inl w), (2, .inl (sP S.1.1 (fun _ => 1) j : Int)), (3, .inl (sP S.1.1 (gJ S.1.1) j : Int)), (4, .inl (j : Int))] [] K Q := by
      intro d
      induction d with
      | zero =>
        intro j hj
        have : j = S.1.1.length := by omega
        subst this
        refine t180_23 K _ _ _ _ ⟨fun _ => ?_, fun z => absurd (by rw [e20]; omega) z⟩
        rw [e20, h0.2.2.2.2.2.1.1, h0.2.2.2.2.1.1, h0.2.2.1.2.1]
        refine ⟨fun a => ⟨fun b => ⟨fun c => ⟨fun d => ⟨fun e => ?_, fun e => ?_⟩, fun d => ?_⟩, fun c => ?_⟩, fun b => ?_⟩, fun a => ?_⟩
        · rw [if_neg a, if_neg b, if_neg c, if_neg d, if_neg e, if_pos (by omega)] at hQ; exact hQ
        · rw [if_neg a, if_neg b, if_neg c, if_neg d, if_pos (by omega)] at hQ; exact hQ
        · rw [if_neg a, if_neg b, if_neg c, if_pos (by omega)] at hQ; exact hQ
        · rw [if_neg a, if_neg b, if_pos (by omega)] at hQ; exact hQ
        · rw [if_neg a, if_pos (by omega)] at hQ; exact hQ
        · rw [if_pos (by omega)] at hQ; exact hQ
      | succ d ih =>
        intro j hj
        have next := ih (j + 1) (by omega)
        obtain ⟨l1, l2⟩ := h0.1.let_ hG.1 (p := j) (by omega)
        have le1 := sP_le S.1.1 (fun _ => 1) (fun _ => Nat.le_refl _) j
        have le2 := sP_le S.1.1 (gJ S.1.1) (gJ_le S.1.1) j
        have ec1 : sP S.1.1 (fun _ => 1) (j + 1) = sP S.1.1 (fun _ => 1) j + if lt S.1.1 j = 64 then 1 else 0 := rfl
        have ec2 : sP S.1.1 (gJ S.1.1) (j + 1) = sP S.1.1 (gJ S.1.1) j + if lt S.1.1 j = 64 then gJ S.1.1 (fnr S.1.1 j) else 0 := rfl
        rw [ec1, ec2] at next
        refine t180_23 K _ _ _ _ ⟨fun z => absurd z (by rw [e20]; omega), fun _ => ⟨l1, ?_⟩⟩
        rw [l2, wrap_succ (n := j) (by omega)]
        refine ⟨fun y => ?_, fun y => ?_⟩
        · rw [if_neg y, if_neg y] at next
          exact next
        · have y : lt S.1.1 j = 64 := by simpa using y
          obtain ⟨g1, g2⟩ := h0.1.fun_ hG.1 (p := j) (by omega) (hds_kind.1.mpr (Or.inl y))
          obtain ⟨i1, i2, i3⟩ := fun_idx (def_fun hG.1.1 (p := j) (by omega) y).1
          have ef : (nm S.1.1 j - 65).toNat = fnr S.1.1 j := rfl
          rw [ef] at i1 i2
          rw [if_pos y, if_pos y] at next
          rw [g2, i1, toNat_c, h0.1.2.2.1 _ i2, mjmp_rt, b2i_0]
          refine ⟨g1, inb_nat i2, fun y2 => ?_, fun y2 => ?_⟩
          · rw [show gJ S.1.1 (fnr S.1.1 j) = 0 by unfold gJ; rw [if_neg (by rw [y2]; decide)]] at next
            rw [wrap_succ (n := sP S.1.1 (fun _ => 1) j) (by omega), wrap_of (x := (sP S.1.1 (gJ S.1.1) j : Int) + 0) (by omega) (by omega), show (sP S.1.1 (gJ S.1.1) j : Int) + 0 = ((sP S.1.1 (gJ S.1.1) j + 0 : Nat) : Int) by omega]
            exact next
          · rw [show gJ S.1.1 (fnr S.1.1 j) = 1 by unfold gJ; rw [if_pos (by simpa using y2)]] at next
            rw [wrap_succ (n := sP S.1.1 (fun _ => 1) j) (by omega), wrap_succ (n := sP S.1.1 (gJ S.1.1) j) (by omega)]
            exact next
    exact loop S.1.1.length 0 (by omega)
  · have hz : ¬ (0 ≤ w ∧ w ≤ 5) := fun y => z (nob2i.mpr (inI_iff.mpr y))
    rw [if_neg (by omega), if_neg (by omega), if_neg (by omega), if_neg (by omega), if_neg (by omega), if_neg (by omega)] at hQ
    exact hQ
def oComes (y v : Int) (S : Sta) : Int × Sta := if S.2.2.2.2.1.1 = 3 then (-3, S) else ((S.2.2.2.2.1.1 : Int) + 1, (S.1, S.2.1, S.2.2.1, S.2.2.2.1, (S.2.2.2.2.1.1 + 1, (fun j => if j = S.2.2.2.2.1.1 then y else S.2.2.2.2.1.2.1 j), (fun j => if j = S.2.2.2.2.1.1 then v else S.2.2.2.2.1.2.2 j)), S.2.2.2.2.2))
theorem C_comes {y v : Int} (hG : Good S) (h : RelC I S) (hQ : ∀ I', RelC I' (oComes y v S).2 → FrHi I I' → Q (some (.inl (oComes y v S).1)) I') : R 94 0 [(0, .inr (some 0)), (1, .inl y), (2, .inl v)] [] I Q := by
  obtain ⟨h1, h2, h3, h4, h5, ⟨h6, h6'⟩, h7⟩ := id h
  have hk := hG.2.2.2.2.2
  unfold oComes at hQ
  refine t94_0 I _ _ ?_
  rw [h6]
  refine ⟨fun z => ?_, fun z => ?_⟩
  · rw [if_neg (by omega)] at hQ
    dsimp only
    have w75 : wr I 75 (S.2.2.2.2.1.1 : Int) y = upd2 I 75 S.2.2.2.2.1.1 y := wr_nat (by show _ < 3; omega)
    rw [w75, upd2_id (show 0 ≠ 75 by decide), h6]
    have w76 : wr (upd2 I 75 S.2.2.2.2.1.1 y) 76 (S.2.2.2.2.1.1 : Int) v = upd2 (upd2 I 75 S.2.2.2.2.1.1 y) 76 S.2.2.2.2.1.1 v := wr_nat (by show _ < 3; omega)
    rw [w76, upd2_id (show 0 ≠ 76 by decide), upd2_id (show 0 ≠ 75 by decide), h6, wrap_succ (by omega)]
    generalize hJ : upd2 (upd2 (upd2 I 75 S.2.2.2.2.1.1 y) 76 S.2.2.2.2.1.1 v) 0 13 ((S.2.2.2.2.1.1 + 1 : Nat) : Int) = J
    have ji : ∀ id, id ≠ 0 → id ≠ 75 → id ≠ 76 → J id = I id := fun id a b c => by rw [← hJ, upd2_id a, upd2_id c, upd2_id b]
    have j0 : ∀ k, k ≠ 13 → J 0 k = I 0 k := fun k a => by rw [← hJ, upd2_at, if_neg (fun q => a q.2), upd2_id (by decide), upd2_id (by decide)]
    have j13 : J 0 13 = ((S.2.2.2.2.1.1 + 1 : Nat) : Int) := by rw [← hJ]; simp [upd2]
    have j75 : ∀ j, J 75 j = if j = S.2.2.2.2.1.1 then y else I 75 j := fun j => by rw [← hJ]; simp [upd2]
    have j76 : ∀ j, J 76 j = if j = S.2.2.2.2.1.1 then v else I 76 j := fun j => by rw [← hJ]; simp [upd2]
    rw [j13]
    refine hQ J ⟨h1.fr (ji 7 (by decide) (by decide) (by decide)) (ji 8 (by decide) (by decide) (by decide)), h2.fr (fun id a b => ji id (by omega) (by omega) (by omega)), h3.fr (fun id a b => ji id (by omega) (by omega) (by omega)), h4.fr (fun id a b => ji id (by omega) (by omega) (by omega)), ⟨by rw [j0 1 (by decide)]; exact h5.1, fun j hj => by rw [ji 1 (by decide) (by decide) (by decide)]; exact h5.2 j hj⟩, ⟨j13, fun j hj => ?_⟩, by rw [j0 14 (by decide)]; exact h7⟩ (fun id hid => ji id (by omega) (by omega) (by omega))
    have hj : j < S.2.2.2.2.1.1 + 1 := hj
    rw [j75, j76]
    by_cases hjk : j = S.2.2.2.2.1.1
    · rw [if_pos hjk, if_pos hjk]
      exact ⟨(if_pos hjk).symm, (if_pos hjk).symm⟩
    · rw [if_neg hjk, if_neg hjk]
      have := h6' j (by omega)
      exact ⟨this.1.trans (if_neg hjk).symm, this.2.trans (if_neg hjk).symm⟩
  · rw [if_pos (by omega)] at hQ
    exact hQ I h (fun _ _ => rfl)
theorem M_comes {y v : Int} (hG : Good S) (h : RelM I S) (hQ : ∀ I', RelM I' (oComes y v S).2 → FrLo I I' → Q (some (.inl (oComes y v S).1)) I') : R 174 0 [(0, .inr (some 77)), (1, .inl y), (2, .inl v)] [] I Q := by
  have hk := hG.2.2.2.2.2
  unfold oComes at hQ
  refine t174_0 I _ _ ?_
  dsimp only
  have h0 := h.thr (v := 0)
  have f0 := thr_lo (I := I) (v := 0)
  generalize upd2 I 77 0 0 = K at h0 f0 ⊢
  obtain ⟨h1, h2, h3, h4, h5, ⟨h6, h6'⟩, h7⟩ := id h0
  rw [h6]
  refine ⟨fun z => ?_, fun z => ?_⟩
  · rw [if_neg (by omega)] at hQ
    have e2 : wrap (2 * (S.2.2.2.2.1.1 : Int)) = ((2 * S.2.2.2.2.1.1 : Nat) : Int) := by rw [wrap_of (by omega) (by omega)]; omega
    rw [e2, toNat_c, upd2_id (show 77 ≠ 84 by decide), h6, e2, wrap_succ (by omega), toNat_c, upd2_id (show 77 ≠ 84 by decide), upd2_id (show 77 ≠ 84 by decide), h6, wrap_succ (by omega)]
    refine ⟨inb_nat (by omega), inb_nat (by omega), ?_⟩
    generalize hJ : upd2 (upd2 (upd2 K 84 (2 * S.2.2.2.2.1.1) y) 84 (2 * S.2.2.2.2.1.1 + 1) v) 77 11 ((S.2.2.2.2.1.1 + 1 : Nat) : Int) = J
    have ji : ∀ id, id ≠ 77 → id ≠ 84 → J id = K id := fun id a b => by rw [← hJ, upd2_id a, upd2_id b, upd2_id b]
    have j7 : ∀ k, k ≠ 11 → J 77 k = K 77 k := fun k a => by rw [← hJ, upd2_at, if_neg (fun q => a q.2), upd2_id (by decide), upd2_id (by decide)]
    have j11 : J 77 11 = ((S.2.2.2.2.1.1 + 1 : Nat) : Int) := by rw [← hJ]; simp [upd2]
    have j84 : ∀ j, J 84 j = if j = 2 * S.2.2.2.2.1.1 + 1 then v else if j = 2 * S.2.2.2.2.1.1 then y else K 84 j := fun j => by rw [← hJ]; simp [upd2]
    rw [j11]
    refine hQ J ⟨h1.fr' (fun id hid => ji id (by omega) (by omega)) (j7 20 (by decide)), ⟨by rw [ji 79 (by decide) (by decide)]; exact h2.1, by rw [ji 79 (by decide) (by decide)]; exact h2.2⟩, h3.fr (j7 5 (by decide)) (ji 80 (by decide) (by decide)), h4.fr (ji 81 (by decide) (by decide)) (ji 82 (by decide) (by decide)), ⟨by rw [j7 2 (by decide)]; exact h5.1, fun j hj => by rw [ji 78 (by decide) (by decide)]; exact h5.2 j hj⟩, ⟨j11, fun j hj => ?_⟩, by rw [j7 9 (by decide)]; exact h7⟩ (fun id hid => by rw [ji id (by omega) (by omega)]; exact f0 id hid)
    have hj : j < S.2.2.2.2.1.1 + 1 := hj
    rw [j84, j84]
    by_cases hjk : j = S.2.2.2.2.1.1
    · rw [if_neg (by omega), if_pos (by omega), if_pos (by omega)]
      exact ⟨(if_pos hjk).symm, (if_pos hjk).symm⟩
    · rw [if_neg (by omega), if_neg (by omega), if_neg (by omega), if_neg (by omega)]
      have := h6' j (by omega)
      exact ⟨this.1.trans (if_neg hjk).symm, this.2.trans (if_neg hjk).symm⟩
  · rw [if_pos (by omega)] at hQ
    exact hQ K h0 f0
def oForget (S : Sta) : Int × Sta := ((S.2.2.2.2.1.1 : Int), (S.1, S.2.1, S.2.2.1, S.2.2.2.1, (0, S.2.2.2.2.1.2), S.2.2.2.2.2))
theorem C_forget (h : RelC I S) (hQ : ∀ I', RelC I' (oForget S).2 → FrHi I I' → Q (some (.inl (oForget S).1)) I') : R 95 0 [(0, .inr (some 0))] [] I Q := by
  obtain ⟨h1, h2, h3, h4, h5, ⟨h6, h6'⟩, h7⟩ := id h
  refine t95_0 I ?_
  dsimp only
  rw [h6]
  generalize hJ : upd2 I 0 13 0 = J
  have ji : ∀ id, id ≠ 0 → J id = I id := fun id a => by rw [← hJ, upd2_id a]
  have j0 : ∀ k, k ≠ 13 → J 0 k = I 0 k := fun k a => by rw [← hJ, upd2_at, if_neg (fun q => a q.2)]
  exact hQ J ⟨h1.fr (ji 7 (by decide)) (ji 8 (by decide)), h2.fr (fun id a b => ji id (by omega)), h3.fr (fun id a b => ji id (by omega)), h4.fr (fun id a b => ji id (by omega)), ⟨by rw [j0 1 (by decide)]; exact h5.1, fun j hj => by rw [ji 1 (by decide)]; exact h5.2 j hj⟩, ⟨by rw [← hJ]; simp [upd2, oForget], fun j hj => absurd hj (by simp [oForget])⟩, by rw [j0 14 (by decide)]; exact h7⟩ (fun id hid => ji id (by omega))
theorem M_forget (h : RelM I S) (hQ : ∀ I', RelM I' (oForget S).2 → FrLo I I' → Q (some (.inl (oForget S).1)) I') : R 175 0 [(0, .inr (some 77))] [] I Q := by
  refine t175_0 I ?_
  dsimp only
  have h0 := h.thr (v := 0)
  have f0 := thr_lo (I := I) (v := 0)
  generalize upd2 I 77 0 0 = K at h0 f0 ⊢
  obtain ⟨h1, h2, h3, h4, h5, ⟨h6, h6'⟩, h7⟩ := id h0
  rw [h6]
  generalize hJ : upd2 K 77 11 0 = J
  have ji : ∀ id, id ≠ 77 → J id = K id := fun id a => by rw [← hJ, upd2_id a]
  have j7 : ∀ k, k ≠ 11 → J 77 k = K 77 k := fun k a => by rw [← hJ, upd2_at, if_neg (fun q => a q.2)]
  exact hQ J ⟨h1.fr' (fun id hid => ji id (by omega)) (j7 20 (by decide)), ⟨by rw [ji 79 (by decide)]; exact h2.1, by rw [ji 79 (by decide)]; exact h2.2⟩, h3.fr (j7 5 (by decide)) (ji 80 (by decide)), h4.fr (ji 81 (by decide)) (ji 82 (by decide)), ⟨by rw [j7 2 (by decide)]; exact h5.1, fun j hj => by rw [ji 78 (by decide)]; exact h5.2 j hj⟩, ⟨by rw [← hJ]; simp [upd2, oForget], fun j hj => absurd hj (by simp [oForget])⟩, by rw [j7 9 (by decide)]; exact h7⟩ (fun id hid => by rw [ji id (by omega)]; exact f0 id hid)
end Count
