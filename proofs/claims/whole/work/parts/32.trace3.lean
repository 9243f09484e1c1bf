/-! Flow.trace, whole. -/
/-- tails and bodies as far as p -/
def TRp (H : List Hd) (f g : Nat → Int) (p : Nat) : Prop := (0 < p → f 0 = 1 ∧ g 0 = 0) ∧ ∀ a j, a < H.length → j < pts (lt H a) → kp H a j < p →
  (f (kp H a j) = if lt H a = 64 ∧ j = 0 then 1 else if (lt H a = 63 ∨ lt H a = 58 ∨ lt H a = 64) ∧ j ≠ 0 then f a else 0) ∧
  (g (kp H a j) = if lt H a = 64 ∧ j = 0 then nm H a else g a)
theorem TRp.upd {H : List Hd} {f g f' g' : Nat → Int} {p : Nat} (h : TRp H f g p) (hf : ∀ q, q < p → f' q = f q) (hg : ∀ q, q < p → g' q = g q)
    (h0 : p = 0 → f' 0 = 1 ∧ g' 0 = 0)
    (hk : ∀ a j, a < H.length → j < pts (lt H a) → kp H a j = p → (f' p = if lt H a = 64 ∧ j = 0 then 1 else if (lt H a = 63 ∨ lt H a = 58 ∨ lt H a = 64) ∧ j ≠ 0 then f a else 0) ∧ (g' p = if lt H a = 64 ∧ j = 0 then nm H a else g a)) :
    TRp H f' g' (p + 1) := by
  refine ⟨fun _ => ?_, fun a j ha hj hkp => ?_⟩
  · rcases Nat.eq_zero_or_pos p with hp | hp
    · exact h0 hp
    · rw [hf 0 hp, hg 0 hp]; exact h.1 hp
  · have hg1 := kp_gt (H := H) (p := a) (j := j)
    by_cases e : kp H a j = p
    · have := hk a j ha hj e
      rw [hf a (by omega), hg a (by omega), e]
      exact this
    · rw [hf _ (by omega), hg _ (by omega), hf a (by omega), hg a (by omega)]
      exact h.2 a j ha hj (by omega)
theorem place_loop {H : List Hd} (h60 : H.length ≤ 60) (he : ex kE H) (hw : wfa H) {I0 : Mem} (hT : TreeOK I0 9 H) {Q : Post}
    (hQ : ∀ (I : Mem), Fr2 I0 I → TRp H (I 21) (I 22) H.length → (∀ f, f < 6 → I 24 f = dfN H f H.length ∧ I 25 f = -11) → R 0 92 [(0, .inr (some 20)), (1, .inr (some 9)), (2, .inl 1), (3, .inl 0)] [] I Q) :
    ∀ (d p : Nat) (I : Mem), p + d = H.length → Fr2 I0 I → TRp H (I 21) (I 22) p → (∀ f, f < 6 → I 24 f = dfN H f p ∧ I 25 f = -11) → R 0 36 [(0, .inr (some 20)), (1, .inr (some 9)), (2, .inl (p : Int))] [] I Q := by
  intro d
  induction d with
  | zero =>
    intro p I hp hF hR hD
    have hp : p = H.length := by omega
    subst hp
    refine t0_36 I _ ?_
    rw [hF 9 (by omega), hT.1]
    exact ⟨fun _ => hQ I hF hR hD, fun h => absurd (Int.le_refl _) h⟩
  | succ d ih =>
    intro p I hp hF hR hD
    have hp : p < H.length := by omega
    have hT1 : TreeOK I 9 H := hT.fr (fun k hk => hF _ (by omega))
    refine t0_36 I _ ?_
    rw [hF 9 (by omega), hT.1]
    refine ⟨fun h => absurd h (by omega), fun _ => ?_⟩
    -- behind placeExpression
    have rest : ∀ (tv bv : Int), TRp H (upd2 (upd2 I 21 p tv) 22 p bv 21) (upd2 (upd2 I 21 p tv) 22 p bv 22) (p + 1) → (fun r1 I1 => r1 = none ∧ ((¬ (rd I1 10 (p : Int)) = 64 → (R 0 36 [(0, .inr (some 20)), (1, .inr (some 9)), (2, .inl (wrap ((p : Int) + 1)))] [] I1 Q)) ∧ (¬ (¬ (rd I1 10 (p : Int)) = 64) → (let J2 := wr I1 24 (wrap ((rd I1 11 (p : Int)) - 65)) (p : Int); R 0 36 [(0, .inr (some 20)), (1, .inr (some 9)), (2, .inl (wrap ((p : Int) + 1)))] [] J2 Q)))) (none : Option AV) (upd2 (upd2 I 21 p tv) 22 p bv) := by
      intro tv bv hR2
      refine ⟨rfl, ?_⟩
      generalize hJ : upd2 (upd2 I 21 p tv) 22 p bv = J at hR2
      have jo : ∀ id, id ≠ 21 → id ≠ 22 → J id = I id := fun id h1 h2 => by rw [← hJ, upd2_id h2, upd2_id h1]
      have r10 : rd J 10 (p : Int) = lt H p := by rw [tree_rd (t := 9) (H := H) (Or.inl rfl) h60 1 p (by omega) (by omega) hp, jo _ (by omega) (by omega)]; exact (hT1.2.1 p hp).1
      have r11 : rd J 11 (p : Int) = nm H p := by rw [tree_rd (t := 9) (H := H) (Or.inl rfl) h60 2 p (by omega) (by omega) hp, jo _ (by omega) (by omega)]; exact (hT1.2.1 p hp).2.1
      rw [r10, r11, wrap_succ (by omega)]
      refine ⟨fun hl => ?_, fun hl => ?_⟩
      · refine ih (p + 1) J (by omega) (fun id hid => by rw [jo id (by omega) (by omega)]; exact hF id hid) hR2 (fun f hf => ?_)
        rw [jo 24 (by omega) (by omega), jo 25 (by omega) (by omega)]
        unfold dfN
        rw [if_neg (fun q => hl q.1)]
        exact hD f hf
      · have hl : lt H p = 64 := by simpa using hl
        have hfr := fun_range (def_fun he hp hl).1
        have hfn : wrap (nm H p - 65) = (fnr H p : Int) := by unfold fnr; rw [wrap_of (by omega) (by omega)]; omega
        have hf6 : fnr H p < 6 := by unfold fnr; omega
        dsimp only
        rw [hfn, wr_nat (by rw [sz24]; omega)]
        have ko : ∀ id, id ≠ 24 → upd2 J 24 (fnr H p) (p : Int) id = J id := fun id h => upd2_id h
        refine ih (p + 1) _ (by omega) (fun id hid => by rw [ko id (by omega), jo id (by omega) (by omega)]; exact hF id hid) (by rw [ko 21 (by omega), ko 22 (by omega)]; exact hR2) (fun f hf => ?_)
        rw [ko 25 (by omega), jo 25 (by omega) (by omega), upd2_at, jo 24 (by omega) (by omega)]
        refine ⟨?_, (hD f hf).2⟩
        unfold dfN
        by_cases hff : f = fnr H p
        · rw [if_pos ⟨rfl, hff⟩, if_pos ⟨hl, by rw [hff]; unfold fnr; omega⟩]
        · rw [if_neg (fun q => hff q.2), if_neg (fun q => hff (by have := q.2; unfold fnr; omega))]
          exact (hD f hf).1
    have u21 : ∀ tv bv q, upd2 (upd2 I 21 p tv) 22 p bv 21 q = if q = p then tv else I 21 q := by
      intro tv bv q
      rw [upd2_id (by omega), upd2_at]
      by_cases h : q = p <;> simp [h]
    have u22 : ∀ tv bv q, upd2 (upd2 I 21 p tv) 22 p bv 22 q = if q = p then bv else I 22 q := by
      intro tv bv q
      rw [upd2_at, upd2_id (by omega)]
      by_cases h : q = p <;> simp [h]
    rcases Nat.eq_zero_or_pos p with hp0 | hp0
    · subst hp0
      refine R_place0 (rest 1 0 (hR.upd (fun q hq => absurd hq (by omega)) (fun q hq => absurd hq (by omega)) (fun _ => by rw [u21, u22]; exact ⟨rfl, rfl⟩) (fun a j ha hj hk => absurd hk (by have := kp_gt (H := H) (p := a) (j := j); omega))))
    · obtain ⟨a, j, a1, a2, a3⟩ := kp_surj hw p hp0 hp
      have ha : a < H.length := by omega
      have hpl := R_placeK h60 hw hT1 ha a2 (Q := fun r1 I1 => r1 = none ∧ ((¬ (rd I1 10 (p : Int)) = 64 → (R 0 36 [(0, .inr (some 20)), (1, .inr (some 9)), (2, .inl (wrap ((p : Int) + 1)))] [] I1 Q)) ∧ (¬ (¬ (rd I1 10 (p : Int)) = 64) → (let J2 := wr I1 24 (wrap ((rd I1 11 (p : Int)) - 65)) (p : Int); R 0 36 [(0, .inr (some 20)), (1, .inr (some 9)), (2, .inl (wrap ((p : Int) + 1)))] [] J2 Q))))
      rw [a3] at hpl
      refine hpl (rest _ _ (hR.upd (fun q hq => by rw [u21, if_neg (by omega)]) (fun q hq => by rw [u22, if_neg (by omega)]) (fun h => absurd h (by omega)) (fun a' j' ha' hj' hk => ?_)))
      obtain ⟨rfl, rfl⟩ := kp_uniq hw ha' ha hj' a2 (hk.trans a3.symm)
      rw [u21, u22, if_pos rfl, if_pos rfl]
      exact ⟨rfl, rfl⟩
theorem init_loop {Q : Post} {I0 : Mem} (hQ : ∀ (I : Mem), (∀ id, id ≠ 24 → id ≠ 25 → I id = I0 id) → (∀ f, f < 6 → I 24 f = -9 ∧ I 25 f = -11) → R 0 36 [(0, .inr (some 20)), (1, .inr (some 9)), (2, .inl 0)] [] I Q) :
    ∀ (d f : Nat) (I : Mem), f + d = 6 → (∀ id, id ≠ 24 → id ≠ 25 → I id = I0 id) → (∀ g, g < f → I 24 g = -9 ∧ I 25 g = -11) → R 0 2 [(0, .inr (some 20)), (1, .inr (some 9)), (2, .inl (f : Int))] [] I Q := by
  intro d
  induction d with
  | zero =>
    intro f I hf hF hD
    have hf : f = 6 := by omega
    subst hf
    exact t0_2 I _ ⟨fun _ => hQ I hF hD, fun h => absurd (by omega) h⟩
  | succ d ih =>
    intro f I hf hF hD
    refine t0_2 I _ ⟨fun h => absurd h (by omega), fun _ => ?_⟩
    dsimp only
    rw [wr_nat (id := 24) (by rw [sz24]; omega), wr_nat (id := 25) (by rw [sz25]; omega), wrap_succ (by omega)]
    refine ih (f + 1) _ (by omega) (fun id h1 h2 => by rw [upd2_id h2, upd2_id h1]; exact hF id h1 h2) (fun g hg => ?_)
    rw [upd2_id (show 24 ≠ 25 by omega), upd2_at, upd2_at, upd2_id (show 25 ≠ 24 by omega)]
    by_cases hgf : g = f
    · simp [hgf]
    · simp [hgf]
      exact hD g (by omega)
/-- Flow.trace -/
theorem R_trace {H : List Hd} (h60 : H.length ≤ 60) (he : ex kE H) (hw : wfa H) {I : Mem} (hT : TreeOK I 9 H) {Q : Post} (hQ : ∀ (I' : Mem), FlowOK I' H → Fr2 I I' → Q none I') : R 0 0 [(0, .inr (some 20)), (1, .inr (some 9))] [] I Q := by
  refine t0_0 I (init_loop (I0 := I) (fun I1 hF1 hD1 => ?_) 6 0 I (by omega) (fun _ _ _ => rfl) (fun g hg => absurd hg (by omega)))
  have hF1' : Fr2 I I1 := fun id hid => hF1 id (by omega) (by omega)
  have hT1 : TreeOK I1 9 H := hT.fr (fun k hk => hF1' _ (by omega))
  refine place_loop h60 he hw hT (fun I2 hF2 hR2 hD2 => ?_) H.length 0 I1 (by omega) hF1' ⟨fun h => absurd h (by omega), fun a j ha hj hk => absurd hk (by omega)⟩ (fun f hf => hD1 f hf)
  have hpos : 0 < H.length := by
    rcases Nat.eq_zero_or_pos H.length with h | h
    · have := List.length_eq_zero_iff.mp h
      subst this
      exact absurd rfl (ex_ne he)
    · exact h
  have hTR0 : TailRec H (I2 21) (I2 22) := ⟨(hR2.1 hpos).1, (hR2.1 hpos).2, fun a j ha hj => hR2.2 a j ha hj (kp_len hw ha hj)⟩
  have hTR := TB_rec hTR0
  have hT2 : TreeOK I2 9 H := hT.fr (fun k hk => hF2 _ (by omega))
  refine passes_loop h60 he hw hTR hT2 (TB_eq hw hTR0) (fun I3 hF3 hb3 => ?_) 13 0 I2 (by omega) (fun _ _ => rfl) (fun f hf => (hD2 f hf).2) (fun i hi => absurd hi (by omega))
  have hT3 : TreeOK I3 9 H := hT2.fr (fun k hk => hF3 _ (by omega))
  refine ways_loop h60 he hw hT3 (fun p hp => by rw [hF3 21 (by omega)]; exact (TB_eq hw hTR0 p hp).1) hb3 (fun I4 hF4 hy4 => ?_) H.length 0 I3 (by omega) (fun _ _ => rfl) (fun q hq => absurd hq (by omega))
  refine hQ I4 ⟨fun p hp => ⟨?_, ?_, hy4 p hp⟩, fun f hf => ⟨?_, ?_⟩, hTR⟩ (fun id hid => by rw [hF4 id (by omega), hF3 id (by omega)]; exact hF2 id hid)
  · rw [hF4 21 (by omega), hF3 21 (by omega)]; exact (TB_eq hw hTR0 p hp).1
  · rw [hF4 22 (by omega), hF3 22 (by omega)]; exact (TB_eq hw hTR0 p hp).2
  · rw [hF4 24 (by omega), hF3 24 (by omega)]; exact (hD2 f hf).1
  · rw [hF4 25 (by omega)]; exact hb3 f hf
/-- the class has the program H in 'now', and its tree and flow -/
def NowOK (I : Mem) (H : List Hd) : Prop := I 7 1 = ((tk H).length : Int) ∧ Txt I 8 (tk H)
def AnaOK (I : Mem) (H : List Hd) : Prop := TreeOK I 9 H ∧ FlowOK I H
theorem R_analyse {H : List Hd} (hH : prog H) {I : Mem} (hN : NowOK I H) {Q : Post} (hQ : ∀ (I' : Mem), AnaOK I' H → (∀ id, (id < 9 ∨ 25 < id) → I' id = I id) → Q none I') : R 101 0 [(0, .inr (some 0))] [] I Q := by
  have hw := prog_wfa hH
  have h60 := prog_60 hH
  refine t101_0 I ?_
  rw [hN.1]
  refine R_build (Or.inl ⟨rfl, rfl⟩) hw hH.2.1 hH.2.2.2 hN.2 (fun I1 hT1 hF1 => ⟨rfl, ?_⟩)
  refine R_trace h60 hH.1 hw hT1 (fun I2 hFl hF2 => ⟨rfl, ?_⟩)
  refine hQ I2 ⟨hT1.fr (fun k hk => hF2 _ (by omega)), hFl⟩ (fun id hid => ?_)
  have h1 : id < 21 ∨ 25 < id := by omega
  by_cases h2 : id = 20
  · subst h2; exact absurd hid (by omega)
  · rw [hF2 id h1]
    exact hF1 id (by omega)
