/-! inputs, undo, next, shortest, shrinks, reads, keep, back: the model. -/
theorem MAna.fr2 {I J : Mem} {H : List Hd} (h : MAna I H) (hx : (tk H).length ≤ 60) (e79 : ∀ j, j ≤ 60 → J 79 j = I 79 j) (e1 : ∀ id, 89 ≤ id → id ≤ 99 → J id = I id) (e20 : J 77 20 = I 77 20) : MAna J H := by
  obtain ⟨⟨⟨⟨a1, a2⟩, a3, a4, a5, a6, a7, a8⟩, b⟩, c⟩ := h
  unfold MAna MTree LMod MTx PMod EMd MFlow
  rw [e1 89 (by decide) (by decide), e1 90 (by decide) (by decide), e1 91 (by decide) (by decide), e1 92 (by decide) (by decide), e1 93 (by decide) (by decide), e1 94 (by decide) (by decide), e1 95 (by decide) (by decide), e1 96 (by decide) (by decide), e1 99 (by decide) (by decide), e20, e79 60 (by omega)]
  exact ⟨⟨⟨⟨fun j hj => by rw [e79 j (by omega)]; exact a1 j hj, a2⟩, a3, a4, a5, a6, a7, a8⟩, b⟩, c⟩
theorem RelM.set {I J : Mem} {S : Sta} {s : Snap} {n : Nat} {h : Nat → Snap} (hR : RelM I S) (h1 : MAna J s.1) (h2 : J 79 61 = s.2.1 ∧ J 79 62 = s.2.2) (h3 : HistM J n h) (e : ∀ id, id = 78 ∨ id = 81 ∨ id = 82 ∨ id = 84 → J id = I id) (e7 : ∀ k, k = 2 ∨ k = 9 ∨ k = 11 → J 77 k = I 77 k) : RelM J (setS S s n h) := by
  obtain ⟨-, -, -, h4, h5, h6, h7⟩ := hR
  exact ⟨h1, h2, h3, h4.fr (e 81 (by omega)) (e 82 (by omega)), ⟨by rw [e7 2 (by omega)]; exact h5.1, fun j hj => by rw [e 78 (by omega)]; exact h5.2 j hj⟩, ⟨by rw [e7 11 (by omega)]; exact h6.1, fun j hj => by rw [e 84 (by omega)]; exact h6.2 j hj⟩, by rw [e7 9 (by omega)]; exact h7⟩
section MActs
variable {I : Mem} {S : Sta} {Q : Post}
theorem M_inputs {x y : Int} (hG : Good S) (h : RelM I S) (hQ : ∀ I', RelM I' (oInputs x y S).2 → FrLo I I' → Q (some (.inl (oInputs x y S).1)) I') : R 136 0 [(0, .inr (some 77)), (1, .inl x), (2, .inl y)] [] I Q := by
  have hx := hG.1.2.2.2
  unfold oInputs at hQ
  refine t136_0 I _ _ ?_
  dsimp only
  have h0 := h.thr (v := 0)
  have f0 := thr_lo (I := I) (v := 0)
  generalize upd2 I 77 0 0 = K at h0 f0 ⊢
  have e1 : K 79 (61 : Int).toNat = S.1.2.1 := h0.2.1.1
  have e2 : K 79 (62 : Int).toNat = S.1.2.2 := h0.2.1.2
  have i1 : inb 61 63 := inb_nat (i := 61) (by omega)
  have i2 : inb 62 63 := inb_nat (i := 62) (by omega)
  have go : ¬ (x = S.1.2.1 ∧ y = S.1.2.2) → R 135 0 [(0, .inr (some 77))] [] K (fun r2 I2 => r2 = none ∧ (inb 61 (63) ∧ (let J3 := upd2 I2 79 (61 : Int).toNat x; inb 62 (63) ∧ (let J4 := upd2 J3 79 (62 : Int).toNat y; Q (some (.inl 1)) J4)))) := by
    intro z
    rw [if_neg z] at hQ
    refine R_notes h0.2.2.1 h0.blk (fun k hk => (hG.2.2.1 k hk).2.2.2) hx (fun I1 h1 f1 g1 => ⟨rfl, i1, i2, ?_⟩)
    generalize hJ : upd2 (upd2 I1 79 (61 : Int).toNat x) 79 (62 : Int).toNat y = J
    have ji : ∀ id, id ≠ 79 → J id = I1 id := fun id a => by rw [← hJ, upd2_id a, upd2_id a]
    have j79 : ∀ j, j ≤ 60 → J 79 j = I1 79 j := fun j hj => by
      rw [← hJ, upd2_at, if_neg (fun q => by have : j = 62 := q.2; omega), upd2_at, if_neg (fun q => by have : j = 61 := q.2; omega)]
    have j61 : J 79 61 = x := by rw [← hJ]; show upd2 (upd2 I1 79 61 x) 79 62 y 79 61 = x; simp [upd2]
    have j62 : J 79 62 = y := by rw [← hJ]; show upd2 (upd2 I1 79 61 x) 79 62 y 79 62 = y; simp [upd2]
    exact hQ J (h0.set (h0.1.fr2 hx (fun j hj => by rw [j79 j hj, f1 79 (by decide) (by decide)]) (fun id a b => by rw [ji id (by omega), f1 id (by omega) (by omega)]) (by rw [ji 77 (by decide), g1 20 (by decide)])) ⟨j61, j62⟩ (h1.fr (by rw [ji 77 (by decide)]) (ji 80 (by decide))) (fun id hid => by rw [ji id (by omega), f1 id (by omega) (by omega)]) (fun k hk => by rw [ji 77 (by decide), g1 k (by omega)])) (fun id hid => by rw [ji id (by omega), f1 id (by omega) (by omega), f0 id hid])
  rw [e1, e2]
  refine ⟨i1, fun z => go (fun y => z y.1.symm), fun z => ⟨i2, fun z2 => go (fun y => z2 y.2.symm), fun z2 => ?_⟩⟩
  have z : S.1.2.1 = x := by simpa using z
  have z2 : S.1.2.2 = y := by simpa using z2
  rw [if_pos ⟨z.symm, z2.symm⟩] at hQ
  exact hQ K h0 f0
/-- lays, when a program was put into s -/
theorem M_lays {K J : Mem} {s : Snap} {n : Nat} {h : Nat → Snap} {Q : Post} (hR : RelM K S) (hs : prog s.1) (hb : Blk J 79 0 s) (hh : HistM J n h) (e : ∀ id, id = 78 ∨ id = 81 ∨ id = 82 ∨ id = 84 → J id = K id) (e7 : ∀ k, k = 2 ∨ k = 9 ∨ k = 11 → J 77 k = K 77 k) (hlo : FrLo I J) (hQ : ∀ I', RelM I' (setS S s n h) → FrLo I I' → I' 77 20 = (s.1.length : Int) → I' 77 5 = (n : Int) → Q none I') :
    R 127 0 [(0, .inr (some 77))] [] J Q := by
  refine R_lays hs hb.2.1 (fun j hj => by have := hb.1 j hj; rw [Nat.zero_add] at this; exact this) (fun I1 a1 f1 g1 => ?_)
  have hh1 : HistM I1 n h := hh.fr (g1 5 (by decide)) (f1 80 (by decide) (by omega))
  refine hQ I1 (hR.set a1 ⟨?_, ?_⟩ hh1 (fun id hid => by rw [f1 id (by omega) (by omega)]; exact e id hid) (fun k hk => by rw [g1 k (by omega)]; exact e7 k hk)) (fun id hid => by rw [f1 id (by omega) (by omega)]; exact hlo id hid) a1.1.1.2.1 hh1.2.1
  · rw [f1 79 (by decide) (by omega)]; have := hb.2.2.1; rw [Nat.zero_add] at this; exact this
  · rw [f1 79 (by decide) (by omega)]; have := hb.2.2.2; rw [Nat.zero_add] at this; exact this
theorem M_undo (hG : Good S) (h : RelM I S) (hQ : ∀ I', RelM I' (oUndo S).2 → FrLo I I' → Q (some (.inl (oUndo S).1)) I') : R 137 0 [(0, .inr (some 77))] [] I Q := by
  unfold oUndo at hQ
  refine t137_0 I ?_
  dsimp only
  have h0 := h.thr (v := 0)
  have f0 := thr_lo (I := I) (v := 0)
  generalize upd2 I 77 0 0 = K at h0 f0 ⊢
  have h5 := h0.2.2.1.2.1
  refine ⟨fun z => ?_, fun z => ?_⟩
  · have hn : S.2.1.1 ≠ 0 := by intro e; rw [h5, e] at z; exact z rfl
    rw [if_neg hn] at hQ
    obtain ⟨n, hn'⟩ : ∃ n, S.2.1.1 = n + 1 := ⟨S.2.1.1 - 1, by omega⟩
    have n8 := hG.2.1
    have hpn := hG.2.2.1 n (by omega)
    have hB := h0.2.2.1.2.2 n (by omega)
    have hB' : ∀ k, k < n → Blk K 80 (63 * k) (S.2.1.2 k) := fun k hk => h0.2.2.1.2.2 k (by omega)
    rw [hn'] at hQ h5 n8
    rw [Nat.add_sub_cancel] at hQ
    rw [h5, wrap_pred (by omega)]
    generalize hJ : upd2 K 77 5 (n : Int) = J
    have ji : ∀ id, id ≠ 77 → J id = K id := fun id a => by rw [← hJ, upd2_id a]
    have j7 : ∀ k, k ≠ 5 → J 77 k = K 77 k := fun k a => by rw [← hJ, upd2_at, if_neg (fun q => a q.2)]
    have j5 : J 77 5 = (n : Int) := by rw [← hJ]; simp [upd2]
    have loop : ∀ (d i : Nat) (M : Mem), i + d = 63 → (∀ id, id ≠ 79 → M id = J id) → (∀ j, j < i → M 79 j = J 80 (63 * n + j)) → R 137 27 [(0, .inr (some 77)), (1, .inl (i : Int))] [] M Q := by
      intro d
      induction d with
      | zero =>
        intro i M hi hF hD
        have hi : i = 63 := by omega
        subst hi
        refine t137_27 M _ ⟨fun _ => ?_, fun q => absurd (by decide) q⟩
        refine M_lays (I := I) (n := n) (h := S.2.1.2) h0 hpn (hB.copy hpn.2.2.2 (fun j hj => by rw [Nat.zero_add, hD j hj, ji 80 (by decide)])) ⟨by omega, by rw [hF 77 (by decide)]; exact j5, fun k hk => (hB' k hk).copy (hG.2.2.1 k (by omega)).2.2.2 (fun j hj => by rw [hF 80 (by decide), ji 80 (by decide)])⟩ (fun id hid => by rw [hF id (by omega), ji id (by omega)]) (fun k hk => by rw [hF 77 (by decide), j7 k (by omega)]) (fun id hid => by rw [hF id (by omega), ji id (by omega), f0 id hid]) (fun I' r1 r2 r3 r4 => ⟨rfl, ?_⟩)
        rw [r4]
        exact hQ I' r1 r2
      | succ d ih =>
        intro i M hi hF hD
        have m5 : M 77 5 = (n : Int) := by rw [hF 77 (by decide)]; exact j5
        refine t137_27 M _ ⟨fun q => absurd q (by omega), fun _ => ?_⟩
        rw [m5, w63 (by omega) (by omega), toNat_c, toNat_c, wrap_succ (by omega)]
        refine ⟨inb_nat (by omega), inb_nat (by omega), ?_⟩
        dsimp only
        refine ih (i + 1) _ (by omega) (fun id a => by rw [upd2_id a]; exact hF id a) (fun j hj => ?_)
        rw [upd2_at]
        by_cases hji : j = i
        · rw [if_pos ⟨rfl, hji⟩, hji, hF 80 (by decide)]
        · rw [if_neg (fun q => hji q.2)]
          exact hD j (by omega)
    exact loop 63 0 J (by omega) (fun _ _ => rfl) (fun j hj => absurd hj (by omega))
  · have hn : S.2.1.1 = 0 := by rw [h5] at z; omega
    rw [if_pos hn] at hQ
    exact hQ K h0 f0
theorem RelM.frH {I J : Mem} {S : Sta} (h : RelM I S) (e : FrH I J) : RelM J S := h.fr (fun id hid => e.1 id (by omega)) (fun k hk => e.2 k (by omega))
theorem M_next {w : Int} (hG : Good S) (h : RelM I S) (hQ : ∀ I', RelM I' S → FrLo I I' → Q (some (.inl (oNext w S.1.1))) I') : R 151 0 [(0, .inr (some 77)), (1, .inl w)] [] I Q := by
  unfold oNext at hQ
  refine t151_0 I _ ?_
  dsimp only
  have h0 := h.thr (v := 0)
  have f0 := thr_lo (I := I) (v := 0)
  generalize upd2 I 77 0 0 = K at h0 f0 ⊢
  refine ⟨fun z => ?_, fun z => ?_⟩
  · have z := inI_iff.mp (nob2i.mp z)
    rw [if_neg (by omega)] at hQ
    refine R_firstShrunk hG.1 h0.1 (fun c J f => ⟨_, rfl, fun _ => ?_, fun y => absurd rfl y⟩) (fun c J f e => ⟨_, rfl, fun y => absurd y (by omega), fun _ => ?_⟩)
    · rw [if_pos c] at hQ
      exact hQ J (h0.frH f) (fun id hid => by rw [f.1 id (by omega), f0 id hid])
    · rw [if_neg (fun y => y c)] at hQ
      have hQ := hQ J (h0.frH f) (fun id hid => by rw [f.1 id (by omega), f0 id hid])
      refine ⟨fun y => ?_, fun y => ?_⟩
      · rw [if_neg y] at hQ; rw [e]; exact hQ
      · rw [if_pos (by simpa using y)] at hQ; exact hQ
  · rw [if_pos (fun y => z (nob2i.mpr (inI_iff.mpr y)))] at hQ
    exact hQ K h0 f0
theorem simp_zero {n : Nat} (hn : n ≠ 0) (H : List Hd) : (simp' n H).2 = 0 ↔ ¬ fsh H < H.length := by
  obtain ⟨m, rfl⟩ : ∃ m, n = m + 1 := ⟨n - 1, by omega⟩
  unfold simp'
  split
  next c => exact ⟨fun z => absurd z (by show ¬ (_ + 1 = 0); omega), fun z => absurd c z⟩
  next c => exact ⟨fun _ => c, fun _ => rfl⟩
theorem M_shrinks {n : Int} (hG : Good S) (h : RelM I S) (hQ : ∀ I', RelM I' (oShrinks n S).2 → FrLo I I' → Q (some (.inl (oShrinks n S).1)) I') : R 150 0 [(0, .inr (some 77)), (1, .inl n)] [] I Q := by
  unfold oShrinks at hQ
  refine t150_0 I _ ?_
  dsimp only
  have h0 := h.thr (v := 0)
  have f0 := thr_lo (I := I) (v := 0)
  generalize upd2 I 77 0 0 = K at h0 f0 ⊢
  refine ⟨fun z => ?_, fun z => ?_⟩
  · have z := inI_iff.mp (nob2i.mp z)
    rw [if_neg (by omega)] at hQ
    have hz := simp_zero (n := n.toNat) (by omega) S.1.1
    refine R_firstShrunk hG.1 h0.1 (fun c J f => ⟨_, rfl, fun y => absurd rfl y, fun _ => ?_⟩) (fun c J f e => ⟨_, rfl, fun _ => ?_, fun y => absurd (by omega) y⟩)
    · rw [if_pos (hz.mpr c)] at hQ
      exact hQ J (h0.frH f) (fun id hid => by rw [f.1 id (by omega), f0 id hid])
    · rw [if_neg (fun y => hz.mp y c)] at hQ
      have hJ := h0.frH f
      refine R_notes hJ.2.2.1 hJ.blk (fun k hk => (hG.2.2.1 k hk).2.2.2) hG.1.2.2.2 (fun I1 h1 f1 g1 => ⟨rfl, ?_⟩)
      have a1 : MAna I1 S.1.1 := hJ.1.fr' (fun id hid => f1 id (by omega) (by omega)) (g1 20 (by decide))
      rw [show n = ((n.toNat : Nat) : Int) by omega]
      refine mshrinks_loop (n := n.toNat) (by omega) n.toNat 0 S.1.1 I1 (by omega) hG.1 a1 (fun I2 a2 f2 => ?_)
      rw [Nat.zero_add]
      refine hQ I2 (hJ.set a2 ⟨?_, ?_⟩ (h1.fr (f2.2.1 5 (by decide) (by decide) (by decide)) (f2.1 80 (by decide) (by decide) (by omega))) (fun id hid => by rw [f2.1 id (by omega) (by omega) (by omega), f1 id (by omega) (by omega)]) (fun k hk => by rw [f2.2.1 k (by omega) (by omega) (by omega), g1 k (by omega)])) (fun id hid => by rw [f2.1 id (by omega) (by omega) (by omega), f1 id (by omega) (by omega), f.1 id (by omega), f0 id hid])
      · rw [f2.2.2 61 (by omega), f1 79 (by decide) (by decide)]; exact hJ.2.1.1
      · rw [f2.2.2 62 (by omega), f1 79 (by decide) (by decide)]; exact hJ.2.1.2
  · rw [if_pos (fun y => z (nob2i.mpr (inI_iff.mpr y)))] at hQ
    exact hQ K h0 f0
theorem M_shortest {w : Int} (hG : Good S) (h : RelM I S) (hQ : ∀ I', RelM I' S → FrLo I I' → Q (some (.inl (oShortest w S.1.1))) I') : R 152 0 [(0, .inr (some 77)), (1, .inl w)] [] I Q := by
  have hx := hG.1.2.2.2
  unfold oShortest at hQ
  refine t152_0 I _ ?_
  dsimp only
  have h0 := h.thr (v := 0)
  have f0 := thr_lo (I := I) (v := 0)
  generalize upd2 I 77 0 0 = K at h0 f0 ⊢
  refine ⟨fun z => ?_, fun z => ?_⟩
  · have z := inI_iff.mp (nob2i.mp z)
    rw [if_neg (by omega)] at hQ
    -- the program comes back
    have back : ∀ (L : Mem) (v l : Int), (∀ j, j < 63 → L 83 j = K 79 j) → (∀ id, id = 78 ∨ id = 80 ∨ id = 81 ∨ id = 82 ∨ id = 84 → L id = K id) → (∀ k, k = 2 ∨ k = 5 ∨ k = 9 ∨ k = 11 → L 77 k = K 77 k) → FrLo I L → (∀ I', RelM I' S → FrLo I I' → (¬ w = 0 → Q (some (.inl l)) I') ∧ (¬ (¬ w = 0) → Q (some (.inl v)) I')) →
        ∀ (d i : Nat) (M : Mem), i + d = 63 → (∀ id, id ≠ 79 → M id = L id) → (∀ j, j < i → M 79 j = K 79 j) → R 152 65 [(0, .inr (some 77)), (1, .inl w), (2, .inl v), (3, .inl l), (4, .inl (i : Int))] [] M Q := by
      intro L v l l83 lf l7 llo hq d
      induction d with
      | zero =>
        intro i M hi hF hD
        have hi : i = 63 := by omega
        subst hi
        refine t152_65 M _ _ _ _ ⟨fun _ => ?_, fun q => absurd (by decide) q⟩
        refine M_lays (I := I) (s := S.1) (n := S.2.1.1) (h := S.2.1.2) h0 hG.1 (h0.blk.copy hx (fun j hj => by rw [Nat.zero_add]; exact hD j hj)) (h0.2.2.1.fr (by rw [hF 77 (by decide), l7 5 (by omega)]) (by rw [hF 80 (by decide), lf 80 (by omega)])) (fun id hid => by rw [hF id (by omega), lf id (by omega)]) (fun k hk => by rw [hF 77 (by decide), l7 k (by omega)]) (fun id hid => by rw [hF id (by omega), llo id hid]) (fun I' r1 r2 _ _ => ⟨rfl, hq I' r1 r2⟩)
      | succ d ih =>
        intro i M hi hF hD
        refine t152_65 M _ _ _ _ ⟨fun q => absurd q (by omega), fun _ => ⟨inb_nat (by omega), inb_nat (by omega), ?_⟩⟩
        rw [toNat_c, wrap_succ (by omega)]
        dsimp only
        refine ih (i + 1) _ (by omega) (fun id a => by rw [upd2_id a]; exact hF id a) (fun j hj => ?_)
        rw [upd2_at]
        by_cases hji : j = i
        · rw [if_pos ⟨rfl, hji⟩, hji, hF 83 (by decide), l83 i (by omega)]
        · rw [if_neg (fun q => hji q.2)]
          exact hD j (by omega)
    have save : ∀ (d i : Nat) (M : Mem), i + d = 63 → (∀ id, id ≠ 83 → M id = K id) → (∀ j, j < i → M 83 j = K 79 j) → R 152 18 [(0, .inr (some 77)), (1, .inl w), (2, .inl (i : Int))] [] M Q := by
      intro d
      induction d with
      | zero =>
        intro i M hi hF hD
        have hi : i = 63 := by omega
        subst hi
        refine t152_18 M _ _ ⟨fun _ => ?_, fun q => absurd (by decide) q⟩
        refine mshort_loop 60 0 S.1.1 M (by omega) hx hG.1 (h0.1.fr' (fun id hid => hF id (by omega)) (by rw [hF 77 (by decide)])) (fun L _ fL => ?_)
        rw [Nat.zero_add]
        refine back L _ _ (fun j hj => by rw [fL.1 83 (by decide) (by decide) (by omega)]; exact hD j hj) (fun id hid => by rw [fL.1 id (by omega) (by omega) (by omega), hF id (by omega)]) (fun k hk => by rw [fL.2.1 k (by omega) (by omega) (by omega), hF 77 (by decide)]) (fun id hid => by rw [fL.1 id (by omega) (by omega) (by omega), hF id (by omega), f0 id hid]) (fun I' r1 r2 => ?_) 63 0 L (by omega) (fun _ _ => rfl) (fun j hj => absurd hj (by omega))
        have hq := hQ I' r1 r2
        refine ⟨fun y => ?_, fun y => ?_⟩
        · rw [if_neg y] at hq; exact hq
        · rw [if_pos (by simpa using y)] at hq; exact hq
      | succ d ih =>
        intro i M hi hF hD
        refine t152_18 M _ _ ⟨fun q => absurd q (by omega), fun _ => ⟨inb_nat (by omega), inb_nat (by omega), ?_⟩⟩
        rw [toNat_c, wrap_succ (by omega)]
        dsimp only
        refine ih (i + 1) _ (by omega) (fun id a => by rw [upd2_id a]; exact hF id a) (fun j hj => ?_)
        rw [upd2_at]
        by_cases hji : j = i
        · rw [if_pos ⟨rfl, hji⟩, hji, hF 79 (by decide)]
        · rw [if_neg (fun q => hji q.2)]
          exact hD j (by omega)
    exact save 63 0 K (by omega) (fun _ _ => rfl) (fun j hj => absurd hj (by omega))
  · rw [if_pos (fun y => z (nob2i.mpr (inI_iff.mpr y)))] at hQ
    exact hQ K h0 f0
theorem M_reads {v : Int} {S' : Sta} (hG : Good S) (h : RelM I S) (hO : OpReads S v S') (hQ : ∀ I', RelM I' S' → FrLo I I' → Q (some (.inl v)) I') : R 123 0 [(0, .inr (some 77))] [] I Q := by
  have hw := hG.2.2.2.2.1
  refine R_mread hw h.2.2.2.2.1.2 h.2.2.2.2.1.1 (fun e he I1 f1 => ?_) (fun he I1 f1 g1 g2 => ?_)
  · rcases hO with ⟨e', he', rfl, rfl⟩ | ⟨he', -⟩
    · rw [he] at he'
      cases he'
      exact hQ I1 (h.fr (fun id hid => f1.1 id (by omega) (by omega)) (fun k hk => f1.2 k (by omega) (by omega))) (fun id hid => f1.1 id (by omega) (by omega))
    · rw [he] at he'; cases he'
  · rcases hO with ⟨e', he', -⟩ | ⟨-, H', hH', hk, rfl, rfl⟩
    · rw [he] at he'; cases he'
    have h1 := h.fr (J := I1) (fun id hid => f1.1 id (by omega) (by omega)) (fun k hk => f1.2 k (by omega) (by omega))
    refine R_notes h1.2.2.1 h1.blk (fun k hk => (hG.2.2.1 k hk).2.2.2) hG.1.2.2.2 (fun I2 h2 f2 g3 => ⟨rfl, ?_⟩)
    rw [← hk] at g1 g2
    have hx := hH'.2.2.2
    have loop : ∀ (d i : Nat) (M : Mem), i + d = (tk H').length → (∀ id, id ≠ 79 → M id = I2 id) → (∀ j, 60 ≤ j → M 79 j = I2 79 j) → (∀ j, j < i → M 79 j = (tk H').getD j 0) → R 123 127 [(0, .inr (some 77)), (1, .inl (i : Int))] [] M Q := by
      intro d
      induction d with
      | zero =>
        intro i M hi hF h6 hD
        have hi : i = (tk H').length := by omega
        subst hi
        have m17 : M 77 17 = ((tk H').length : Int) := by rw [hF 77 (by decide), g3 17 (by decide)]; exact g1
        refine t123_127 M _ ⟨fun _ => ⟨inb_nat (i := 60) (by omega), ?_⟩, fun q => absurd (by rw [m17]; omega) q⟩
        dsimp only
        rw [m17]
        generalize hJ : upd2 M 79 (60 : Int).toNat ((tk H').length : Int) = J
        have ji : ∀ id, id ≠ 79 → J id = M id := fun id a => by rw [← hJ, upd2_id a]
        have j60 : J 79 60 = ((tk H').length : Int) := by rw [← hJ]; show upd2 M 79 60 _ 79 60 = _; simp [upd2]
        have jo : ∀ j, j ≠ 60 → J 79 j = M 79 j := fun j hj => by rw [← hJ, upd2_at, if_neg (fun q => hj q.2)]
        refine M_lays (I := I) (s := (H', S.1.2)) (n := phN S.2.1.1) (h := phH S.2.1.1 S.2.1.2 S.1) (J := J) h1 hH' ⟨fun j hj => ?_, by rw [Nat.zero_add]; exact j60, ?_, ?_⟩ (h2.fr (by rw [ji 77 (by decide), hF 77 (by decide)]) (by rw [ji 80 (by decide), hF 80 (by decide)])) (fun id hid => by rw [ji id (by omega), hF id (by omega), f2 id (by omega) (by omega)]) (fun k hk => by rw [ji 77 (by decide), hF 77 (by decide), g3 k (by omega)]) (fun id hid => by rw [ji id (by omega), hF id (by omega), f2 id (by omega) (by omega), f1.1 id (by omega) (by omega)]) (fun I' r1 r2 r3 r4 => ⟨rfl, ?_⟩)
        · rw [Nat.zero_add, jo j (by have : j < (tk H').length := hj; omega)]; exact hD j hj
        · rw [Nat.zero_add, jo 61 (by decide), h6 61 (by omega), f2 79 (by decide) (by decide)]; exact h1.2.1.1
        · rw [Nat.zero_add, jo 62 (by decide), h6 62 (by omega), f2 79 (by decide) (by decide)]; exact h1.2.1.2
        · rw [show upd2 I' 77 2 0 77 20 = (H'.length : Int) by rw [upd2_at, if_neg (by decide)]; exact r3]
          obtain ⟨b1, b2, b3, b4, b5, b6, b7⟩ := id r1
          have xi : ∀ id, id ≠ 77 → upd2 I' 77 2 0 id = I' id := fun id a => upd2_id a
          have x7 : ∀ k, k ≠ 2 → upd2 I' 77 2 0 77 k = I' 77 k := fun k a => by rw [upd2_at, if_neg (fun q => a q.2)]
          exact hQ _ ⟨b1.fr' (fun id hid => xi id (by omega)) (x7 20 (by decide)), ⟨by rw [xi 79 (by decide)]; exact b2.1, by rw [xi 79 (by decide)]; exact b2.2⟩, b3.fr (x7 5 (by decide)) (xi 80 (by decide)), b4.fr (xi 81 (by decide)) (xi 82 (by decide)), ⟨by simp [upd2], fun j hj => absurd hj (by simp)⟩, ⟨by rw [x7 11 (by decide)]; exact b6.1, fun j hj => by rw [xi 84 (by decide)]; exact b6.2 j hj⟩, by rw [x7 9 (by decide)]; exact b7⟩ (fun id hid => by rw [xi id (by omega)]; exact r2 id hid)
      | succ d ih =>
        intro i M hi hF h6 hD
        have m17 : M 77 17 = ((tk H').length : Int) := by rw [hF 77 (by decide), g3 17 (by decide)]; exact g1
        refine t123_127 M _ ⟨fun q => absurd q (by rw [m17]; omega), fun _ => ⟨inb_nat (by omega), inb_nat (by omega), ?_⟩⟩
        rw [toNat_c, wrap_succ (by omega)]
        dsimp only
        refine ih (i + 1) _ (by omega) (fun id a => by rw [upd2_id a]; exact hF id a) (fun j hj => by rw [upd2_at, if_neg (by omega)]; exact h6 j hj) (fun j hj => ?_)
        rw [upd2_at]
        by_cases hji : j = i
        · rw [if_pos ⟨rfl, hji⟩, hji, hF 88 (by decide), f2 88 (by decide) (by decide)]
          exact g2 i (by omega)
        · rw [if_neg (fun q => hji q.2)]
          exact hD j (by omega)
    exact loop (tk H').length 0 I2 (by omega) (fun _ _ => rfl) (fun _ _ => rfl) (fun j hj => absurd hj (by omega))
theorem w63i {i : Int} {k : Nat} (hi : 0 ≤ i ∧ i ≤ 1) (hk : k < 63) : wrap (wrap (63 * i) + (k : Int)) = ((63 * i.toNat + k : Nat) : Int) := by
  rw [wrap_of (x := 63 * i) (by omega) (by omega), wrap_of (by omega) (by omega)]
  omega
theorem M_keep {i : Int} (hG : Good S) (h : RelM I S) (hQ : ∀ I', RelM I' (oKeep i S).2 → FrLo I I' → Q (some (.inl (oKeep i S).1)) I') : R 178 0 [(0, .inr (some 77)), (1, .inl i)] [] I Q := by
  have hx := hG.1.2.2.2
  unfold oKeep at hQ
  refine t178_0 I _ ?_
  dsimp only
  have h0 := h.thr (v := 0)
  have f0 := thr_lo (I := I) (v := 0)
  generalize upd2 I 77 0 0 = K at h0 f0 ⊢
  refine ⟨fun z => ?_, fun z => ?_⟩
  · have z := inI_iff.mp (nob2i.mp z)
    rw [if_neg (fun y => y z)] at hQ
    have loop : ∀ (d k : Nat) (M : Mem), k + d = 63 → (∀ id, id ≠ 81 → M id = K id) → (∀ j, M 81 j = if 63 * i.toNat ≤ j ∧ j < 63 * i.toNat + k then K 79 (j - 63 * i.toNat) else K 81 j) → R 178 18 [(0, .inr (some 77)), (1, .inl i), (2, .inl (k : Int))] [] M Q := by
      intro d
      induction d with
      | zero =>
        intro k M hk hF hD
        have hk : k = 63 := by omega
        subst hk
        refine t178_18 M _ _ ⟨fun _ => ⟨⟨z.1, by omega⟩, Or.inr rfl, ?_⟩, fun q => absurd (by decide) q⟩
        dsimp only
        generalize hJ : upd2 M 82 i.toNat 1 = J
        have ji : ∀ id, id ≠ 82 → J id = M id := fun id a => by rw [← hJ, upd2_id a]
        have j82 : ∀ j, J 82 j = if j = i.toNat then 1 else K 82 j := fun j => by
          have : J 82 j = if j = i.toNat then 1 else M 82 j := by rw [← hJ]; simp [upd2]
          rw [this, hF 82 (by decide)]
        have jf : ∀ id, id ≠ 81 → id ≠ 82 → J id = K id := fun id a b => by rw [ji id b, hF id a]
        obtain ⟨h1, h2, h3, h4, h5, h6, h7⟩ := id h0
        rw [show J 77 20 = (S.1.1.length : Int) by rw [jf 77 (by decide) (by decide)]; exact h1.1.1.2.1]
        refine hQ J ⟨h1.fr' (fun id hid => jf id (by omega) (by omega)) (by rw [jf 77 (by decide) (by decide)]), ⟨by rw [jf 79 (by decide) (by decide)]; exact h2.1, by rw [jf 79 (by decide) (by decide)]; exact h2.2⟩, h3.fr (by rw [jf 77 (by decide) (by decide)]) (jf 80 (by decide) (by decide)), fun j hj => ?_, ⟨by rw [jf 77 (by decide) (by decide)]; exact h5.1, fun j hj => by rw [jf 78 (by decide) (by decide)]; exact h5.2 j hj⟩, ⟨by rw [jf 77 (by decide) (by decide)]; exact h6.1, fun j hj => by rw [jf 84 (by decide) (by decide)]; exact h6.2 j hj⟩, by rw [jf 77 (by decide) (by decide)]; exact h7⟩ (fun id hid => by rw [jf id (by omega) (by omega), f0 id hid])
        rw [j82]
        show (_ = b2i (if j = i.toNat then true else S.2.2.1.1 j)) ∧ ((if j = i.toNat then true else S.2.2.1.1 j) = true → Blk J 81 (63 * j) (if j = i.toNat then S.1 else S.2.2.1.2 j))
        by_cases hji : j = i.toNat
        · rw [if_pos hji, if_pos hji, if_pos hji]
          rw [hji]
          exact ⟨rfl, fun _ => h0.blk.copy hx (fun k hk => by rw [ji 81 (by decide), hD, if_pos (by omega), show 63 * i.toNat + k - 63 * i.toNat = 0 + k by omega])⟩
        · rw [if_neg hji, if_neg hji, if_neg hji]
          exact ⟨(h4 j hj).1, fun y => ((h4 j hj).2 y).copy (hG.2.2.2.1 j hj y).2.2.2 (fun k hk => by rw [ji 81 (by decide), hD, if_neg (by omega)])⟩
      | succ d ih =>
        intro k M hk hF hD
        refine t178_18 M _ _ ⟨fun q => absurd q (by omega), fun _ => ⟨inb_nat (by omega), ?_⟩⟩
        rw [w63i z (by omega), toNat_c, toNat_c, wrap_succ (by omega)]
        refine ⟨inb_nat (by omega), ?_⟩
        dsimp only
        refine ih (k + 1) _ (by omega) (fun id a => by rw [upd2_id a]; exact hF id a) (fun j => ?_)
        rw [upd2_at, hD j, hF 79 (by decide)]
        by_cases hj : j = 63 * i.toNat + k
        · rw [if_pos ⟨rfl, hj⟩, if_pos (by omega), show j - 63 * i.toNat = k by omega]
        · rw [if_neg (fun q => hj q.2)]
          by_cases h2 : 63 * i.toNat ≤ j ∧ j < 63 * i.toNat + k
          · rw [if_pos h2, if_pos (by omega)]
          · rw [if_neg h2, if_neg (by omega)]
    exact loop 63 0 K (by omega) (fun _ _ => rfl) (fun j => by rw [if_neg (by omega)])
  · rw [if_pos (fun y => z (nob2i.mpr (inI_iff.mpr y)))] at hQ
    exact hQ K h0 f0
theorem M_back {i : Int} (hG : Good S) (h : RelM I S) (hQ : ∀ I', RelM I' (oBack i S).2 → FrLo I I' → Q (some (.inl (oBack i S).1)) I') : R 179 0 [(0, .inr (some 77)), (1, .inl i)] [] I Q := by
  unfold oBack at hQ
  refine t179_0 I _ ?_
  dsimp only
  have h0 := h.thr (v := 0)
  have f0 := thr_lo (I := I) (v := 0)
  generalize upd2 I 77 0 0 = K at h0 f0 ⊢
  refine ⟨fun z => ?_, fun z => ?_⟩
  · have z := inI_iff.mp (nob2i.mp z)
    rw [if_neg (fun y => y z)] at hQ
    have hi4 := h0.2.2.2.1 i.toNat (by omega)
    rw [hi4.1]
    refine ⟨⟨z.1, by omega⟩, fun y => ?_, fun y => ?_⟩
    · have y := nob2i.mp y
      have hP := hG.2.2.2.1 i.toNat (by omega) y
      have hB := hi4.2 y
      rw [if_neg (by rw [y]; decide)] at hQ
      have loop : ∀ (d k : Nat) (M : Mem), k + d = 63 → (∀ id, id ≠ 79 → M id = K id) → (∀ j, j < k → M 79 j = K 81 (63 * i.toNat + j)) → R 179 30 [(0, .inr (some 77)), (1, .inl i), (2, .inl (k : Int))] [] M Q := by
        intro d
        induction d with
        | zero =>
          intro k M hk hF hD
          have hk : k = 63 := by omega
          subst hk
          refine t179_30 M _ _ ⟨fun _ => ?_, fun q => absurd (by decide) q⟩
          dsimp only
          generalize hJ : upd2 M 77 5 0 = J
          have ji : ∀ id, id ≠ 77 → J id = M id := fun id a => by rw [← hJ, upd2_id a]
          have j7 : ∀ k, k ≠ 5 → J 77 k = M 77 k := fun k a => by rw [← hJ, upd2_at, if_neg (fun q => a q.2)]
          refine M_lays (I := I) (s := S.2.2.1.2 i.toNat) (n := 0) (h := S.2.1.2) (J := J) h0 hP (hB.copy hP.2.2.2 (fun j hj => by rw [Nat.zero_add, ji 79 (by decide), hD j hj])) ⟨by omega, by rw [← hJ]; simp [upd2], fun k hk => absurd hk (by omega)⟩ (fun id hid => by rw [ji id (by omega), hF id (by omega)]) (fun k hk => by rw [j7 k (by omega), hF 77 (by decide)]) (fun id hid => by rw [ji id (by omega), hF id (by omega), f0 id hid]) (fun I' r1 r2 r3 r4 => ⟨rfl, ?_⟩)
          rw [r3]
          exact hQ I' r1 r2
        | succ d ih =>
          intro k M hk hF hD
          refine t179_30 M _ _ ⟨fun q => absurd q (by omega), fun _ => ?_⟩
          rw [w63i z (by omega), toNat_c, toNat_c, wrap_succ (by omega)]
          refine ⟨inb_nat (by omega), inb_nat (by omega), ?_⟩
          dsimp only
          refine ih (k + 1) _ (by omega) (fun id a => by rw [upd2_id a]; exact hF id a) (fun j hj => ?_)
          rw [upd2_at]
          by_cases hji : j = k
          · rw [if_pos ⟨rfl, hji⟩, hji, hF 81 (by decide)]
          · rw [if_neg (fun q => hji q.2)]
            exact hD j (by omega)
      exact loop 63 0 K (by omega) (fun _ _ => rfl) (fun j hj => absurd hj (by omega))
    · have y : S.2.2.1.1 i.toNat = false := by
        cases hh : S.2.2.1.1 i.toNat with
        | false => rfl
        | true => rw [hh] at y; exact absurd (by decide) y
      rw [if_pos y] at hQ
      exact hQ K h0 f0
  · rw [if_pos (fun y => z (nob2i.mpr (inI_iff.mpr y)))] at hQ
    exact hQ K h0 f0
end MActs
